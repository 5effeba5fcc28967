/-! the text: tokens; the class's reading -/
def kLe (v : Nat) : Bool := decide (97 ≤ v) && decide (v ≤ 122)
def kBl (v : Nat) : Bool := decide (v = 32) || decide (v = 10)
/-- the first place, from p on, m at most, where it is not so -/
def kSk (P : Nat → Bool) : Nat → Nat → Nat
  | 0, p => p
  | m + 1, p => if P p = true then kSk P m (p + 1) else p
theorem kSk_ge (P : Nat → Bool) : ∀ m p, p ≤ kSk P m p ∧ kSk P m p ≤ p + m ∧ ∀ j, p ≤ j → j < kSk P m p → P j = true := by
  intro m
  induction m with
  | zero => intro p; exact ⟨Nat.le_refl _, Nat.le_refl _, fun j h1 h2 => absurd h2 (by show ¬ j < p; omega)⟩
  | succ m ih =>
    intro p
    rw [kSk]
    by_cases c : P p = true
    · rw [if_pos c]
      obtain ⟨a1, a2, a3⟩ := ih (p + 1)
      refine ⟨by omega, by omega, fun j h1 h2 => ?_⟩
      by_cases e : j = p
      · rw [e]; exact c
      · exact a3 j (by omega) h2
    · rw [if_neg c]; exact ⟨Nat.le_refl _, by omega, fun j h1 h2 => by omega⟩
/-- where the next token begins; where it ends; whether it is one -/
def kA (b : Nat → Nat) (t e : Nat) : Nat := kSk (fun j => kBl (b j)) (t - e) e
def kE (b : Nat → Nat) (t a : Nat) : Nat := if b a = 59 then a + 1 else kSk (fun j => kLe (b j)) (t - a) a
abbrev kOk (b : Nat → Nat) (t a : Nat) : Prop := a < kE b t a ∧ kE b t a ≤ a + 8
theorem kA_le {b : Nat → Nat} {t e : Nat} (h : e ≤ t) : e ≤ kA b t e ∧ kA b t e ≤ t := by
  have := kSk_ge (fun j => kBl (b j)) (t - e) e
  unfold kA
  exact ⟨this.1, by omega⟩
theorem kE_le {b : Nat → Nat} {t a : Nat} (h : a < t) : a ≤ kE b t a ∧ kE b t a ≤ t := by
  have := kSk_ge (fun j => kLe (b j)) (t - a) a
  unfold kE
  by_cases c : b a = 59
  · rw [if_pos c]; omega
  · rw [if_neg c]; omega
def kT (t : Nat) (b : Nat → Nat) (σ : zS) : Prop := t ≤ 400 ∧ (∀ j, b j < 256) ∧ σ.1 (31, 0, 0) 4 = nI t ∧ ∀ j, j < t → σ.1 (32, 0, 0) j &&& 255 = nI (b j)
theorem kT_up {t : Nat} {b : Nat → Nat} {σ : zS} {z : zJ} {i : Nat} {x : Int32} (h : kT t b σ) (h1 : z ≠ (32, 0, 0)) (h2 : z = (31, 0, 0) → i ≠ 4) : kT t b (z_up σ z i x) := by
  obtain ⟨a1, a2, a3, a4⟩ := h
  refine ⟨a1, a2, ?_, fun j hj => ?_⟩
  · rw [z_up_at]
    rw [if_neg (fun q => h2 q.1.symm q.2.symm)]
    exact a3
  · rw [z_up_n _ _ _ (fun q => h1 q.symm)]
    exact a4 j hj
theorem z_up_id {σ : zS} {z : zJ} {i : Nat} {x : Int32} (h : σ.1 z i = x) : z_up σ z i x = σ := by
  refine yS_ext (fun z' i' => ?_) rfl
  rw [z_up_at]
  by_cases c : z' = z ∧ i' = i
  · rw [if_pos c, c.1, c.2, h]
  · rw [if_neg c]
theorem z_up_up (σ : zS) (z : zJ) (i : Nat) (x y : Int32) : z_up (z_up σ z i x) z i y = z_up σ z i y := by
  refine yS_ext (fun z' i' => ?_) rfl
  rw [z_up_at, z_up_at, z_up_at]
  by_cases c : z' = z ∧ i' = i
  · rw [if_pos c, if_pos c]
  · rw [if_neg c, if_neg c, if_neg c]
section ktext
variable {t : Nat} {b : Nat → Nat} {σ : zS}
theorem kT_byte {p : Nat} (h : kT t b σ) (hp : p < t) : fT_byteAt (nI p) σ = some (nI (b p), σ) := by
  obtain ⟨a1, a2, a3, a4⟩ := h
  unfold fT_byteAt
  rw [if_neg (nI_pos (by omega)), a3, if_neg (fun q => by have := (nI_leI (by omega) (by omega)).mp q; omega), if_neg (fun q => by have := (nI_le_lit (a := 400) (by decide +kernel) (by decide) (by omega)).mp q; omega), if_pos (nI_inz (by omega) (by decide)), nI_clamp (by omega), a4 p hp]
theorem kT_letter {p : Nat} (h : kT t b σ) (hp : p < t) : fT_isLetter (nI p) σ = some (if kLe (b p) = true then 1 else 0, σ) := by
  have h2 := h.2.1 p
  unfold fT_isLetter kLe
  rw [kT_byte h hp, z_bde]
  by_cases c1 : b p < 97
  · rw [if_pos (by rw [show (97 : Int32) = nI 97 from by decide +kernel]; exact nI_lt c1 (by decide)), if_neg (by simp; omega)]
  · rw [if_neg (by rw [show (97 : Int32) = nI 97 from by decide +kernel]; exact nI_nlt (by omega) (by omega))]
    by_cases c2 : 122 < b p
    · rw [if_pos (by rw [show (122 : Int32) = nI 122 from by decide +kernel]; exact nI_lt c2 (by omega)), if_neg (by simp; omega)]
    · rw [if_neg (by rw [show (122 : Int32) = nI 122 from by decide +kernel]; exact nI_nlt (by omega) (by decide)), if_pos (by simp; omega)]
theorem kT_blank {p : Nat} (h : kT t b σ) (hp : p < t) : fT_isBlank (nI p) σ = some (if kBl (b p) = true then 1 else 0, σ) := by
  have h2 := h.2.1 p
  unfold fT_isBlank kBl
  rw [kT_byte h hp, z_bde, show (32 : Int32) = nI 32 from by decide +kernel, show (10 : Int32) = nI 10 from by decide +kernel]
  by_cases c1 : b p = 32
  · rw [if_pos (by rw [c1]), if_pos (by simp [c1])]
  · rw [if_neg (fun q => c1 ((nI_eq (by omega) (by decide)).mp q))]
    by_cases c2 : b p = 10
    · rw [if_pos (by rw [c2]), if_pos (by simp [c2])]
    · rw [if_neg (fun q => c2 ((nI_eq (by omega) (by decide)).mp q)), if_neg (by simp [c1, c2])]
theorem kT_endL (h : kT t b σ) : ∀ m p F, p + m = t → m < F → fT_endOfLetters_2 F (nI p) σ = some (nI (kSk (fun j => kLe (b j)) m p), σ) := by
  have h400 := h.1
  intro m
  induction m with
  | zero =>
    intro p F hp hF
    obtain ⟨F, rfl⟩ : ∃ k, F = k + 1 := ⟨F - 1, by omega⟩
    rw [fT_endOfLetters_2.eq_2, h.2.2.1, if_pos ((nI_leI (by omega) (by omega)).mpr (by omega))]
    rfl
  | succ m ih =>
    intro p F hp hF
    obtain ⟨F, rfl⟩ : ∃ k, F = k + 1 := ⟨F - 1, by omega⟩
    rw [fT_endOfLetters_2.eq_2, h.2.2.1, if_neg (fun q => by have := (nI_leI (by omega) (by omega)).mp q; omega), kT_letter h (by omega), z_bde, kSk]
    by_cases c : kLe (b p) = true
    · rw [if_pos c, if_neg (by decide), if_pos c]
      show fT_endOfLetters_2 F (nI p + 1) σ = _
      rw [nI_1]
      exact ih (p + 1) F (by omega) (by omega)
    · rw [if_neg c, if_pos rfl, if_neg c]
theorem kT_skip : ∀ (m p F : Nat) (σ : zS), kT t b σ → σ.1 (31, 0, 0) 8 = nI p → p + m = t → m < F → fT_findToken_8 F σ = fT_findToken_43 (z_up σ (31, 0, 0) 8 (nI (kSk (fun j => kBl (b j)) m p))) := by
  intro m
  induction m with
  | zero =>
    intro p F σ h h8 hp hF
    have h400 := h.1
    obtain ⟨F, rfl⟩ : ∃ k, F = k + 1 := ⟨F - 1, by omega⟩
    rw [fT_findToken_8.eq_2, h.2.2.1, h8, if_pos ((nI_leI (by omega) (by omega)).mpr (by omega)), kSk, z_up_id h8]
  | succ m ih =>
    intro p F σ h h8 hp hF
    have h400 := h.1
    obtain ⟨F, rfl⟩ : ∃ k, F = k + 1 := ⟨F - 1, by omega⟩
    rw [fT_findToken_8.eq_2, h.2.2.1, h8, if_neg (fun q => by have := (nI_leI (by omega) (by omega)).mp q; omega), kT_blank h (by omega), z_bde, kSk]
    by_cases c : kBl (b p) = true
    · rw [if_pos c, if_neg (by decide), if_pos c, h8]
      show fT_findToken_8 F (z_up σ (31, 0, 0) 8 (nI p + 1)) = _
      rw [nI_1, ih (p + 1) F _ (kT_up h (by decide) (fun _ => by decide)) (by rw [z_up_s, upd_s]) (by omega) (by omega), z_up_up]
    · rw [if_neg c, if_pos rfl, if_neg c, z_up_id h8]
/-- findToken -/
theorem kT_find {e : Nat} (h : kT t b σ) (h9 : σ.1 (31, 0, 0) 9 = nI e) (he : e ≤ t) : (kA b t e = t → fT_findToken σ = some (0, z_up σ (31, 0, 0) 8 (nI (kA b t e)))) ∧ (kA b t e < t → (kOk b t (kA b t e) → fT_findToken σ = some (1, z_up (z_up σ (31, 0, 0) 8 (nI (kA b t e))) (31, 0, 0) 9 (nI (kE b t (kA b t e))))) ∧ (¬ kOk b t (kA b t e) → fT_findToken σ = some (0, z_up (z_up (z_up (z_up σ (31, 0, 0) 8 (nI (kA b t e))) (31, 0, 0) 9 (nI (kE b t (kA b t e)))) (31, 0, 0) 6 1) (31, 0, 0) 7 (nI (kA b t e))))) := by
  have h400 := h.1
  have e0 : fT_findToken σ = fT_findToken_43 (z_up σ (31, 0, 0) 8 (nI (kA b t e))) := by
    unfold fT_findToken
    show fT_findToken_8 z_fu (z_up σ (31, 0, 0) 8 (σ.1 (31, 0, 0) 9)) = _
    rw [h9, kT_skip (t - e) e z_fu _ (kT_up h (by decide) (fun _ => by decide)) (by rw [z_up_s, upd_s]) (by omega) (z_fu_big (by omega)), z_up_up]
    rfl
  obtain ⟨l1, l2⟩ := kA_le (b := b) he
  obtain ⟨a, ea⟩ : ∃ a, a = kA b t e := ⟨_, rfl⟩
  rw [← ea] at e0 l1 l2 ⊢
  have hT : kT t b (z_up σ (31, 0, 0) 8 (nI a)) := kT_up h (by decide) (fun _ => by decide)
  have r8 : (z_up σ (31, 0, 0) 8 (nI a)).1 (31, 0, 0) 8 = nI a := by rw [z_up_s, upd_s]
  rw [e0]
  unfold fT_findToken_43
  rw [r8, hT.2.2.1]
  refine ⟨fun q => ?_, fun q => ?_⟩
  · rw [if_neg (nI_nlt (by omega) (by omega))]
  · rw [if_pos (nI_lt q (by omega)), kT_byte hT q, z_bde]
    have h2 := h.2.1 a
    have e1 : (if nI (b a) = 59 then fT_findToken_87 ((z_up σ (31, 0, 0) 8 (nI a)).1 (31, 0, 0) 8 + 1) (z_up σ (31, 0, 0) 8 (nI a)) else z_bd (fT_endOfLetters ((z_up σ (31, 0, 0) 8 (nI a)).1 (31, 0, 0) 8) (z_up σ (31, 0, 0) 8 (nI a))) (fun r6 σ6 => fT_findToken_87 r6 σ6)) = fT_findToken_87 (nI (kE b t a)) (z_up σ (31, 0, 0) 8 (nI a)) := by
      unfold kE
      by_cases c : b a = 59
      · rw [if_pos (by rw [c]; decide +kernel), if_pos c, r8, nI_1]
      · rw [if_neg (fun q' => c ((nI_eq (a := b a) (b := 59) (by omega) (by decide)).mp (q'.trans (by decide +kernel)))), if_neg c, r8]
        unfold fT_endOfLetters
        rw [kT_endL hT (t - a) a z_fu (by omega) (z_fu_big (by omega)), z_bde]
    rw [e1]
    obtain ⟨k1, k2⟩ := kE_le (b := b) q
    obtain ⟨e', ee⟩ : ∃ e', e' = kE b t a := ⟨_, rfl⟩
    unfold kOk
    rw [← ee] at k1 k2 ⊢
    have s9 : (z_up (z_up σ (31, 0, 0) 8 (nI a)) (31, 0, 0) 9 (nI e')).1 (31, 0, 0) 9 = nI e' := by rw [z_up_s, upd_s]
    have s8 : (z_up (z_up σ (31, 0, 0) 8 (nI a)) (31, 0, 0) 9 (nI e')).1 (31, 0, 0) 8 = nI a := by rw [z_up_s, upd_n _ _ (by decide)]; exact r8
    have e2 : fT_findToken_87 (nI e') (z_up σ (31, 0, 0) 8 (nI a)) = if nI e' = nI a then fT_findToken_115 (z_up (z_up σ (31, 0, 0) 8 (nI a)) (31, 0, 0) 9 (nI e')) else if nI e' - nI a ≤ 8 then some (1, z_up (z_up σ (31, 0, 0) 8 (nI a)) (31, 0, 0) 9 (nI e')) else fT_findToken_115 (z_up (z_up σ (31, 0, 0) 8 (nI a)) (31, 0, 0) 9 (nI e')) := by
      unfold fT_findToken_87
      show (if (z_up (z_up σ (31, 0, 0) 8 (nI a)) (31, 0, 0) 9 (nI e')).1 (31, 0, 0) 9 = (z_up (z_up σ (31, 0, 0) 8 (nI a)) (31, 0, 0) 9 (nI e')).1 (31, 0, 0) 8 then _ else if (z_up (z_up σ (31, 0, 0) 8 (nI a)) (31, 0, 0) 9 (nI e')).1 (31, 0, 0) 9 - (z_up (z_up σ (31, 0, 0) 8 (nI a)) (31, 0, 0) 9 (nI e')).1 (31, 0, 0) 8 ≤ 8 then _ else _) = _
      rw [s9, s8]
    have e3 : fT_findToken_115 (z_up (z_up σ (31, 0, 0) 8 (nI a)) (31, 0, 0) 9 (nI e')) = some (0, z_up (z_up (z_up (z_up σ (31, 0, 0) 8 (nI a)) (31, 0, 0) 9 (nI e')) (31, 0, 0) 6 1) (31, 0, 0) 7 (nI a)) := by
      unfold fT_findToken_115 fT_blame
      rw [s8]
      rfl
    have le8 : nI e' - nI a ≤ 8 ↔ e' ≤ a + 8 := by
      rw [pk_sub k1, show (8 : Int32) = nI 8 from by decide +kernel, nI_leI (by omega) (by decide)]
      omega
    rw [e2]
    refine ⟨fun c => ?_, fun c => ?_⟩
    · rw [if_neg (fun q' => by have := (nI_eq (by omega) (by omega)).mp q'; omega), if_pos (le8.mpr c.2)]
    · by_cases c1 : e' = a
      · rw [if_pos (by rw [c1]), e3]
      · rw [if_neg (fun q' => c1 ((nI_eq (by omega) (by omega)).mp q')), if_neg (fun q' => c ⟨by omega, le8.mp q'⟩), e3]
/-- a token is one of the three texts -/
def kIs (b : Nat → Nat) (g a e : Nat) : Bool := decide (z_len.getD g 0 = e - a) && (z_fst (fun i => !decide (nI (b (a + i)) = z_ch g i)) (z_len.getD g 0) 0).isNone
theorem kT_is0 (g F : Nat) (x : Int32) : fT_tokenIs_24 g (F + 1) 0 x σ = some (0, σ) := by
  rw [fT_tokenIs_24.eq_2, if_pos rfl, if_pos (by decide +kernel)]
theorem kT_is_24 {g a e : Nat} (h : kT t b σ) (h8 : σ.1 (31, 0, 0) 8 = nI a) (hl : z_len.getD g 0 = e - a) (hae : a ≤ e) (he : e ≤ t) : ∀ m i F, i + m = z_len.getD g 0 → m + 1 < F → fT_tokenIs_24 g F 1 (nI i) σ = some (if (z_fst (fun i => !decide (nI (b (a + i)) = z_ch g i)) m i).isNone = true then 1 else 0, σ) := by
  have h400 := h.1
  intro m
  induction m with
  | zero =>
    intro i F hi hF
    obtain ⟨F, rfl⟩ : ∃ k, F = k + 1 := ⟨F - 1, by omega⟩
    rw [fT_tokenIs_24.eq_2, if_neg (by decide), if_pos ((nI_leI (by omega) (by omega)).mpr (by omega)), if_pos (by decide +kernel)]
    rfl
  | succ m ih =>
    intro i F hi hF
    obtain ⟨F, rfl⟩ : ∃ k, F = k + 1 := ⟨F - 1, by omega⟩
    have hs : z_fst (fun i => !decide (nI (b (a + i)) = z_ch g i)) (m + 1) i = if (!decide (nI (b (a + i)) = z_ch g i)) = true then some i else z_fst (fun i => !decide (nI (b (a + i)) = z_ch g i)) m (i + 1) := rfl
    rw [fT_tokenIs_24.eq_2, if_neg (by decide), if_neg (fun q => by have := (nI_leI (by omega) (by omega)).mp q; omega), h8, nI_add, kT_byte h (by omega), z_bde, if_pos (nI_inz (by omega) (by omega)), nI_clamp (by omega), hs]
    by_cases c : nI (b (a + i)) = z_ch g i
    · rw [if_pos c, decide_eq_true c, if_neg (show ¬ (!true) = true by decide)]
      show fT_tokenIs_24 g F 1 (nI i + 1) σ = _
      rw [nI_1]
      exact ih (i + 1) F (by omega) (by omega)
    · rw [if_neg c, decide_eq_false c, if_pos (show (!false) = true from rfl)]
      obtain ⟨F, rfl⟩ : ∃ k, F = k + 1 := ⟨F - 1, by omega⟩
      exact kT_is0 g F _
theorem kT_is {g a e : Nat} (h : kT t b σ) (hg : g < 3) (h8 : σ.1 (31, 0, 0) 8 = nI a) (h9 : σ.1 (31, 0, 0) 9 = nI e) (hae : a ≤ e) (he : e ≤ t) : fT_tokenIs g σ = some (if kIs b g a e = true then 1 else 0, σ) := by
  have h400 := h.1
  have hlen : ∀ g, g < 3 → z_len.getD g 0 < 10 := by decide +kernel
  have hl := hlen g hg
  unfold fT_tokenIs kIs
  rw [h8, h9, pk_sub hae]
  by_cases c : z_len.getD g 0 = e - a
  · rw [if_pos (by rw [c]), decide_eq_true c, Bool.true_and]
    have := kT_is_24 h h8 c hae he (z_len.getD g 0) 0 z_fu (by omega) (z_fu_big (by omega))
    rw [nI_0] at this
    exact this
  · obtain ⟨F, hF, eF⟩ := z_fu_ex
    obtain ⟨F, rfl⟩ : ∃ k, F = k + 1 := ⟨F - 1, by omega⟩
    rw [if_neg (fun q => c ((nI_eq (by omega) (by omega)).mp q)), decide_eq_false c, Bool.false_and, if_neg (by decide), eF, kT_is0]
/-- a token is a name -/
def kNm (b : Nat → Nat) (p l a e : Nat) : Bool := decide (l = e - a) && (z_fst (fun i => !decide (b (a + i) = b (p + i))) l 0).isNone
theorem kT_nm0 (F : Nat) (x y : Int32) : fT_tokenIsName_26 (F + 1) x 0 y σ = some (0, σ) := by
  rw [fT_tokenIsName_26.eq_2, if_pos rfl, if_pos (by decide +kernel)]
theorem kT_nm_26 {n p l a e : Nat} (h : kT t b σ) (hn : n < 7) (h8 : σ.1 (31, 0, 0) 8 = nI a) (h3 : σ.1 (33, 0, 0) n = nI p) (h4 : σ.1 (34, 0, 0) n = nI l) (hl : l = e - a) (hae : a ≤ e) (he : e ≤ t) (hp : p + l ≤ t) : ∀ m i F, i + m = l → m + 1 < F → fT_tokenIsName_26 F (nI n) 1 (nI i) σ = some (if (z_fst (fun i => !decide (b (a + i) = b (p + i))) m i).isNone = true then 1 else 0, σ) := by
  have h400 := h.1
  have gn : z_in (nI n) 7 = true := nI_inz hn (by decide)
  have kn : (nI n).toNatClampNeg = n := nI_clamp (by omega)
  intro m
  induction m with
  | zero =>
    intro i F hi hF
    obtain ⟨F, rfl⟩ : ∃ k, F = k + 1 := ⟨F - 1, by omega⟩
    rw [fT_tokenIsName_26.eq_2, if_neg (by decide), if_pos gn, kn, h4, if_pos ((nI_leI (by omega) (by omega)).mpr (by omega)), if_pos (by decide +kernel)]
    rfl
  | succ m ih =>
    intro i F hi hF
    obtain ⟨F, rfl⟩ : ∃ k, F = k + 1 := ⟨F - 1, by omega⟩
    have hs : z_fst (fun i => !decide (b (a + i) = b (p + i))) (m + 1) i = if (!decide (b (a + i) = b (p + i))) = true then some i else z_fst (fun i => !decide (b (a + i) = b (p + i))) m (i + 1) := rfl
    have b1 := h.2.1 (a + i)
    have b2 := h.2.1 (p + i)
    rw [fT_tokenIsName_26.eq_2, if_neg (by decide), if_pos gn, kn, h4, if_neg (fun q => by have := (nI_leI (by omega) (by omega)).mp q; omega), h8, nI_add, kT_byte h (by omega), z_bde, if_pos gn, h3, nI_add, kT_byte h (by omega), z_bde, hs]
    by_cases c : b (a + i) = b (p + i)
    · rw [if_pos (by rw [c]), decide_eq_true c, if_neg (show ¬ (!true) = true by decide)]
      show fT_tokenIsName_26 F (nI n) 1 (nI i + 1) σ = _
      rw [nI_1]
      exact ih (i + 1) F (by omega) (by omega)
    · rw [if_neg (fun q => c ((nI_eq (by omega) (by omega)).mp q)), decide_eq_false c, if_pos (show (!false) = true from rfl)]
      obtain ⟨F, rfl⟩ : ∃ k, F = k + 1 := ⟨F - 1, by omega⟩
      exact kT_nm0 F _ _
theorem kT_nm {n p l a e : Nat} (h : kT t b σ) (hn : n < 7) (h8 : σ.1 (31, 0, 0) 8 = nI a) (h9 : σ.1 (31, 0, 0) 9 = nI e) (h3 : σ.1 (33, 0, 0) n = nI p) (h4 : σ.1 (34, 0, 0) n = nI l) (hae : a ≤ e) (he : e ≤ t) (hp : p + l ≤ t) : fT_tokenIsName (nI n) σ = some (if kNm b p l a e = true then 1 else 0, σ) := by
  have h400 := h.1
  unfold fT_tokenIsName kNm
  rw [if_pos (nI_inz hn (by decide)), nI_clamp (by omega), h4, h8, h9, pk_sub hae]
  by_cases c : l = e - a
  · rw [if_pos (by rw [c]), decide_eq_true c, Bool.true_and]
    have := kT_nm_26 h hn h8 h3 h4 c hae he hp l 0 z_fu (by omega) (z_fu_big (by omega))
    rw [nI_0] at this
    exact this
  · obtain ⟨F, hF, eF⟩ := z_fu_ex
    obtain ⟨F, rfl⟩ : ∃ k, F = k + 1 := ⟨F - 1, by omega⟩
    rw [if_neg (fun q => c ((nI_eq (by omega) (by omega)).mp q)), decide_eq_false c, Bool.false_and, if_neg (by decide), eF, kT_nm0]
end ktext
