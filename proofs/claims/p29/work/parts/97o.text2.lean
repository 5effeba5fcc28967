/-! the text: what is read out of it; the class reads just that -/
def kU (f : Nat → Nat) (k v : Nat) : Nat → Nat := fun i => if i = k then v else f i
def kUb (f : Nat → Bool) (k : Nat) (v : Bool) : Nat → Bool := fun i => if i = k then v else f i
/-- fault, place, how many, who is silent -/
abbrev kO : Type := Nat × Nat × Nat × (Nat → Bool)
def kEnd (t due k : Nat) (sl : Nat → Bool) : kO := if due ≠ 0 then (2, t, k, sl) else if z_cnt (fun i => !sl i) k 0 = 0 then (4, t, k, sl) else (0, 0, k, sl)
def kRun (b : Nat → Nat) (t : Nat) : Nat → Nat → Nat → Nat → (Nat → Nat) → (Nat → Nat) → (Nat → Bool) → kO
  | 0, _, _, k, _, _, sl => (0, 0, k, sl)
  | m + 1, due, e, k, nm, ln, sl =>
    if kA b t e = t then kEnd t due k sl
    else if ¬ kOk b t (kA b t e) then (1, kA b t e, k, sl)
    else if due = 0 then (if kIs b 0 (kA b t e) (kE b t (kA b t e)) = true ∧ k < 7 then kRun b t m 1 (kE b t (kA b t e)) k nm ln sl else (2, kA b t e, k, sl))
    else if due = 1 then (if kLe (b (kA b t e)) = true ∧ ¬ kIs b 0 (kA b t e) (kE b t (kA b t e)) = true ∧ ¬ kIs b 1 (kA b t e) (kE b t (kA b t e)) = true then (if (z_fst (fun i => kNm b (nm i) (ln i) (kA b t e) (kE b t (kA b t e))) k 0).isSome = true then (3, kA b t e, k, sl) else kRun b t m 2 (kE b t (kA b t e)) (k + 1) (kU nm k (kA b t e)) (kU ln k (kE b t (kA b t e) - kA b t e)) (kUb sl k false)) else (2, kA b t e, k, sl))
    else if kIs b 2 (kA b t e) (kE b t (kA b t e)) = true then kRun b t m 0 (kE b t (kA b t e)) k nm ln sl
    else if due = 2 ∧ kIs b 1 (kA b t e) (kE b t (kA b t e)) = true then kRun b t m 3 (kE b t (kA b t e)) k nm ln (kUb sl (k - 1) true)
    else (2, kA b t e, k, sl)
def kFr (σ0 σ : zS) : Prop := (∀ z : zJ, (z.1 < 31 ∨ 35 < z.1) → σ.1 z = σ0.1 z) ∧ σ.2 = σ0.2
theorem kFr_up {σ0 σ : zS} {z : zJ} {i : Nat} {x : Int32} (h : kFr σ0 σ) (h1 : 31 ≤ z.1) (h2 : z.1 ≤ 35) : kFr σ0 (z_up σ z i x) := ⟨fun z' hz => by rw [z_up_n _ _ _ (fun q => by rw [q] at hz; omega)]; exact h.1 z' hz, h.2⟩
def kC (t : Nat) (b : Nat → Nat) (σ0 σ : zS) (e k : Nat) (nm ln : Nat → Nat) (sl : Nat → Bool) : Prop := kT t b σ ∧ (k ≤ 7 ∧ e ≤ t) ∧ (σ.1 (31, 0, 0) 5 = nI k ∧ σ.1 (31, 0, 0) 6 = 0 ∧ σ.1 (31, 0, 0) 7 = -1 ∧ σ.1 (31, 0, 0) 9 = nI e) ∧ (∀ i, i < k → (σ.1 (33, 0, 0) i = nI (nm i) ∧ σ.1 (34, 0, 0) i = nI (ln i) ∧ σ.1 (35, 0, 0) i = (if sl i = true then 1 else 0)) ∧ nm i + ln i ≤ t) ∧ kFr σ0 σ
def kRs (σ0 σ' : zS) (r : kO) : Prop := r.1 ≤ 4 ∧ σ'.1 (31, 0, 0) 4 = 0 ∧ σ'.1 (31, 0, 0) 6 = nI r.1 ∧ σ'.1 (31, 0, 0) 7 = (if r.1 = 0 then -1 else nI r.2.1) ∧ (r.1 = 0 → r.2.2.1 ≤ 7 ∧ σ'.1 (31, 0, 0) 5 = nI r.2.2.1 ∧ z_cnt (fun i => !r.2.2.2 i) r.2.2.1 0 ≠ 0 ∧ ∀ i, i < r.2.2.1 → σ'.1 (35, 0, 0) i = if r.2.2.2 i = true then 1 else 0) ∧ kFr σ0 σ'
section kclass
variable {t : Nat} {b : Nat → Nat} {σ0 σ : zS} {e k : Nat} {nm ln : Nat → Nat} {sl : Nat → Bool}
theorem kC_8 {x : Int32} (h : kC t b σ0 σ e k nm ln sl) : kC t b σ0 (z_up σ (31, 0, 0) 8 x) e k nm ln sl := by
  obtain ⟨a1, a2, ⟨a3, a4, a5, a6⟩, a7, a8⟩ := h
  refine ⟨kT_up a1 (by decide) (fun _ => by decide), a2, ⟨?_, ?_, ?_, ?_⟩, fun i hi => ⟨⟨?_, ?_, ?_⟩, (a7 i hi).2⟩, kFr_up a8 (by decide) (by decide)⟩
  · rw [z_up_s, upd_n _ _ (by decide)]; exact a3
  · rw [z_up_s, upd_n _ _ (by decide)]; exact a4
  · rw [z_up_s, upd_n _ _ (by decide)]; exact a5
  · rw [z_up_s, upd_n _ _ (by decide)]; exact a6
  · rw [z_up_n _ _ _ (by decide)]; exact (a7 i hi).1.1
  · rw [z_up_n _ _ _ (by decide)]; exact (a7 i hi).1.2.1
  · rw [z_up_n _ _ _ (by decide)]; exact (a7 i hi).1.2.2
theorem kC_9 {e' : Nat} (he : e' ≤ t) (h : kC t b σ0 σ e k nm ln sl) : kC t b σ0 (z_up σ (31, 0, 0) 9 (nI e')) e' k nm ln sl := by
  obtain ⟨a1, a2, ⟨a3, a4, a5, a6⟩, a7, a8⟩ := h
  refine ⟨kT_up a1 (by decide) (fun _ => by decide), ⟨a2.1, he⟩, ⟨?_, ?_, ?_, ?_⟩, fun i hi => ⟨⟨?_, ?_, ?_⟩, (a7 i hi).2⟩, kFr_up a8 (by decide) (by decide)⟩
  · rw [z_up_s, upd_n _ _ (by decide)]; exact a3
  · rw [z_up_s, upd_n _ _ (by decide)]; exact a4
  · rw [z_up_s, upd_n _ _ (by decide)]; exact a5
  · rw [z_up_s, upd_s]
  · rw [z_up_n _ _ _ (by decide)]; exact (a7 i hi).1.1
  · rw [z_up_n _ _ _ (by decide)]; exact (a7 i hi).1.2.1
  · rw [z_up_n _ _ _ (by decide)]; exact (a7 i hi).1.2.2
/-- a fault -/
def kBm (σ : zS) (f p : Nat) : zS := z_up (z_up σ (31, 0, 0) 6 (nI f)) (31, 0, 0) 7 (nI p)
theorem kBm_57 {f p : Nat} (x : Int32) (hf : 1 ≤ f) (hf4 : f ≤ 4) (h : kFr σ0 σ) : ∃ σ', fT_parse_57 x (kBm σ f p) = some ((), σ') ∧ kRs σ0 σ' (f, p, k, sl) := by
  have h6 : (kBm σ f p).1 (31, 0, 0) 6 = nI f := by unfold kBm; rw [z_up_s, upd_n _ _ (by decide), z_up_s, upd_s]
  have n0 : ¬ nI f = 0 := nI_ne0 (by omega) (by omega)
  refine ⟨z_up (kBm σ f p) (31, 0, 0) 4 0, ?_, hf4, ?_, ?_, ?_, fun q => absurd q (by show ¬ f = 0; omega), ?_⟩
  · unfold fT_parse_57
    rw [h6, if_neg n0]
    unfold fT_parse_77
    rw [h6, if_neg n0]
    rfl
  · rw [z_up_s, upd_s]
  · rw [z_up_s, upd_n _ _ (by decide)]; exact h6
  · rw [if_neg (by show ¬ f = 0; omega), z_up_s, upd_n _ _ (by decide)]
    unfold kBm
    rw [z_up_s, upd_s]
  · exact kFr_up (kFr_up (kFr_up h (by decide) (by decide)) (by decide) (by decide)) (by decide) (by decide)
theorem kBm_24 {F f p : Nat} (x y : Int32) (hf : 1 ≤ f) (hf4 : f ≤ 4) (h : kFr σ0 σ) : ∃ σ', fT_parse_24 (F + 1) x y (kBm σ f p) = some ((), σ') ∧ kRs σ0 σ' (f, p, k, sl) := by
  have h6 : (kBm σ f p).1 (31, 0, 0) 6 = nI f := by unfold kBm; rw [z_up_s, upd_n _ _ (by decide), z_up_s, upd_s]
  have n0 : ¬ nI f = 0 := nI_ne0 (by omega) (by omega)
  have e0 : fT_parse_24 (F + 1) x y (kBm σ f p) = fT_parse_57 x (kBm σ f p) := by
    rw [fT_parse_24.eq_2]
    by_cases c : 400 ≤ y
    · rw [if_pos c]
    · rw [if_neg c, h6, if_neg n0]
  rw [e0]
  exact kBm_57 x hf hf4 h
theorem kC_cnt (h5 : σ.1 (31, 0, 0) 5 = nI k) (hk : k ≤ 7) (hs : ∀ i, i < k → σ.1 (35, 0, 0) i = if sl i = true then 1 else 0) : ∀ m i F c, i + m = k → m < F → fT_countVoters_4 F (nI c) (nI i) σ = some (nI (c + z_cnt (fun i => !sl i) m i), σ) := by
  intro m
  induction m with
  | zero =>
    intro i F c hi hF
    obtain ⟨F, rfl⟩ : ∃ k, F = k + 1 := ⟨F - 1, by omega⟩
    rw [fT_countVoters_4.eq_2, h5, if_pos ((nI_leI (by omega) (by omega)).mpr (by omega))]
    rfl
  | succ m ih =>
    intro i F c hi hF
    obtain ⟨F, rfl⟩ : ∃ k, F = k + 1 := ⟨F - 1, by omega⟩
    have hc : z_cnt (fun i => !sl i) (m + 1) i = (if (!sl i) = true then 1 else 0) + z_cnt (fun i => !sl i) m (i + 1) := rfl
    rw [fT_countVoters_4.eq_2, h5, if_neg (fun q => by have := (nI_leI (by omega) (by omega)).mp q; omega), if_pos (nI_inz (by omega) (by decide)), nI_clamp (by omega), hs i (by omega), hc]
    by_cases c1 : sl i = true
    · rw [if_pos c1, if_neg (by decide), c1, if_neg (show ¬ (!true) = true by decide), Nat.zero_add]
      show fT_countVoters_4 F (nI c + 0) (nI i + 1) σ = _
      rw [nI_1, show nI c + 0 = nI c from by rw [← nI_0, nI_add]; rfl]
      exact ih (i + 1) F c (by omega) (by omega)
    · have c2 : sl i = false := by simpa using c1
      rw [if_neg c1, if_pos rfl, c2, if_pos (show (!false) = true from rfl)]
      show fT_countVoters_4 F (nI c + 1) (nI i + 1) σ = _
      rw [nI_1, nI_1, ih (i + 1) F (c + 1) (by omega) (by omega), Nat.add_assoc]
theorem kC_57 {due : Nat} (h : kC t b σ0 σ e k nm ln sl) (hd : due ≤ 3) : ∃ σ', fT_parse_57 (nI due) σ = some ((), σ') ∧ kRs σ0 σ' (kEnd t due k sl) := by
  obtain ⟨a1, a2, ⟨a3, a4, a5, a6⟩, a7, a8⟩ := id h
  have h400 := a1.1
  unfold kEnd
  by_cases c : due = 0
  · rw [if_neg (by omega)]
    have cv := kC_cnt (sl := sl) a3 a2.1 (fun i hi => (a7 i hi).1.2.2) k 0 z_fu 0 (by omega) (z_fu_big (by omega))
    rw [Nat.zero_add, nI_0] at cv
    have e0 : fT_parse_57 (nI due) σ = if nI (z_cnt (fun i => !sl i) k 0) = 0 then some ((), z_up (kBm σ 4 t) (31, 0, 0) 4 0) else some ((), z_up σ (31, 0, 0) 4 0) := by
      unfold fT_parse_57
      rw [a4, if_pos rfl, if_pos (by rw [c, nI_0])]
      unfold fT_parse_77
      rw [a4, if_pos rfl]
      unfold fT_countVoters
      rw [cv, z_bde, a1.2.2.1]
      rfl
    rw [e0]
    have hle := z_cnt_le (fun i => !sl i) k 0
    by_cases c0 : z_cnt (fun i => !sl i) k 0 = 0
    · rw [if_pos (by rw [c0, nI_0]), if_pos c0]
      refine ⟨_, rfl, (show (4 : Nat) ≤ 4 by decide), ?_, ?_, ?_, fun q => absurd q (show ¬ (4 : Nat) = 0 by decide), ?_⟩
      · rw [z_up_s, upd_s]
      · unfold kBm; rw [z_up_s, upd_n _ _ (by decide), z_up_s, upd_n _ _ (by decide), z_up_s, upd_s]
      · unfold kBm; rw [if_neg (show ¬ (4 : Nat) = 0 by decide), z_up_s, upd_n _ _ (by decide), z_up_s, upd_s]
      · exact kFr_up (kFr_up (kFr_up a8 (by decide) (by decide)) (by decide) (by decide)) (by decide) (by decide)
    · rw [if_neg (nI_ne0 (by omega) (by omega)), if_neg c0]
      refine ⟨_, rfl, (show (0 : Nat) ≤ 4 by decide), ?_, ?_, ?_, fun _ => ⟨a2.1, ?_, c0, fun i hi => ?_⟩, ?_⟩
      · rw [z_up_s, upd_s]
      · rw [z_up_s, upd_n _ _ (by decide), a4, nI_0]
      · rw [if_pos rfl, z_up_s, upd_n _ _ (by decide), a5]
      · rw [z_up_s, upd_n _ _ (by decide)]; exact a3
      · rw [z_up_n _ _ _ (by decide)]; exact (a7 i hi).1.2.2
      · exact kFr_up a8 (by decide) (by decide)
  · rw [if_pos c]
    have e0 : fT_parse_57 (nI due) σ = fT_parse_57 (nI due) (kBm σ 2 t) := by
      have h6 : (kBm σ 2 t).1 (31, 0, 0) 6 = nI 2 := by unfold kBm; rw [z_up_s, upd_n _ _ (by decide), z_up_s, upd_s]
      have n0 : ¬ nI 2 = 0 := by decide +kernel
      have e1 : fT_parse_57 (nI due) (kBm σ 2 t) = fT_parse_77 (kBm σ 2 t) := by
        unfold fT_parse_57
        rw [h6, if_neg n0]
      rw [e1]
      unfold fT_parse_57
      rw [a4, if_pos rfl, if_neg (nI_ne0 (by omega) (by omega))]
      unfold fT_blame
      rw [a1.2.2.1]
      rfl
    rw [e0]
    exact kBm_57 _ (by decide) (by decide) a8
/-- taking a name -/
theorem kC_name_2 {a : Nat} (h : kC t b σ0 σ e k nm ln sl) (hk : k < 7) (h8 : σ.1 (31, 0, 0) 8 = nI a) (hae : a ≤ e) : ∀ m i F, i + m = k → m < F → fT_takeName_2 F (nI i) σ = if (z_fst (fun i => kNm b (nm i) (ln i) a e) m i).isSome = true then some ((), kBm σ 3 a) else some ((), z_up (z_up (z_up (z_up σ (33, 0, 0) k (nI a)) (34, 0, 0) k (nI (e - a))) (35, 0, 0) k 0) (31, 0, 0) 5 (nI (k + 1))) := by
  obtain ⟨a1, a2, ⟨a3, a4, a5, a6⟩, a7, a8⟩ := id h
  have h400 := a1.1
  intro m
  induction m with
  | zero =>
    intro i F hi hF
    obtain ⟨F, rfl⟩ : ∃ k, F = k + 1 := ⟨F - 1, by omega⟩
    have g : z_in (nI k) 7 = true := nI_inz hk (by decide)
    have kc : (nI k).toNatClampNeg = k := nI_clamp (by omega)
    have m1 : ∀ (s : zS) (q : zJ) (j : Nat) (x : Int32), q ≠ (31, 0, 0) → (z_up s q j x).1 (31, 0, 0) = s.1 (31, 0, 0) := fun s q j x hq => z_up_n s j x (fun hh => hq hh.symm)
    have nb : vp_nar .boolean 0 = 0 := by decide +kernel
    rw [fT_takeName_2.eq_2, a3, if_pos ((nI_leI (by omega) (by omega)).mpr (by omega)), if_neg (fun q => by
      rw [show (7 : Int32) = nI 7 from by decide +kernel] at q
      have := (nI_leI (by decide) (by omega)).mp q
      omega), if_pos g, kc]
    simp only [z_let, m1 _ (33, 0, 0) _ _ (by decide), m1 _ (34, 0, 0) _ _ (by decide), m1 _ (35, 0, 0) _ _ (by decide), a3, a6, h8, g, kc, if_true, nI_1, pk_sub hae, nb]
    rfl
  | succ m ih =>
    intro i F hi hF
    obtain ⟨F, rfl⟩ : ∃ k, F = k + 1 := ⟨F - 1, by omega⟩
    have hs : z_fst (fun i => kNm b (nm i) (ln i) a e) (m + 1) i = if kNm b (nm i) (ln i) a e = true then some i else z_fst (fun i => kNm b (nm i) (ln i) a e) m (i + 1) := rfl
    obtain ⟨⟨r3, r4, -⟩, r5⟩ := a7 i (by omega)
    rw [fT_takeName_2.eq_2, a3, if_neg (fun q => by have := (nI_leI (by omega) (by omega)).mp q; omega), kT_nm a1 (by omega) h8 a6 r3 r4 hae a2.2 r5, z_bde, hs]
    by_cases c : kNm b (nm i) (ln i) a e = true
    · rw [if_pos c, if_neg (by decide), if_pos c, if_pos (show (some i).isSome = true from rfl), h8]
      rfl
    · rw [if_neg c, if_pos rfl, if_neg c]
      show fT_takeName_2 F (nI i + 1) σ = _
      rw [nI_1]
      exact ih (i + 1) F (by omega) (by omega)
theorem kC_named {a : Nat} (h : kC t b σ0 σ e k nm ln sl) (hk : k < 7) (hae : a ≤ e) : kC t b σ0 (z_up (z_up (z_up (z_up σ (33, 0, 0) k (nI a)) (34, 0, 0) k (nI (e - a))) (35, 0, 0) k 0) (31, 0, 0) 5 (nI (k + 1))) e (k + 1) (kU nm k a) (kU ln k (e - a)) (kUb sl k false) := by
  obtain ⟨a1, a2, ⟨a3, a4, a5, a6⟩, a7, a8⟩ := id h
  refine ⟨kT_up (kT_up (kT_up (kT_up a1 (by decide) (fun q => absurd q (by decide))) (by decide) (fun q => absurd q (by decide))) (by decide) (fun q => absurd q (by decide))) (by decide) (fun _ => by decide), ⟨by omega, a2.2⟩, ⟨?_, ?_, ?_, ?_⟩, fun i hi => ?_, kFr_up (kFr_up (kFr_up (kFr_up a8 (by decide) (by decide)) (by decide) (by decide)) (by decide) (by decide)) (by decide) (by decide)⟩
  · rw [z_up_s, upd_s]
  · rw [z_up_s, upd_n _ _ (by decide), z_up_n _ _ _ (by decide), z_up_n _ _ _ (by decide), z_up_n _ _ _ (by decide)]; exact a4
  · rw [z_up_s, upd_n _ _ (by decide), z_up_n _ _ _ (by decide), z_up_n _ _ _ (by decide), z_up_n _ _ _ (by decide)]; exact a5
  · rw [z_up_s, upd_n _ _ (by decide), z_up_n _ _ _ (by decide), z_up_n _ _ _ (by decide), z_up_n _ _ _ (by decide)]; exact a6
  · rw [z_up_n _ _ _ (by decide), z_up_n _ _ _ (by decide), z_up_n _ _ _ (by decide), z_up_s, z_up_n _ _ _ (by decide), z_up_n _ _ _ (by decide), z_up_s, z_up_n _ _ _ (by decide), z_up_n _ _ _ (by decide), z_up_s, z_up_n _ _ _ (by decide), z_up_n _ _ _ (by decide)]
    unfold kU kUb
    by_cases c : i = k
    · subst c
      rw [upd_s, upd_s, upd_s, if_pos rfl, if_pos rfl, if_pos rfl]
      exact ⟨⟨rfl, rfl, by rw [if_neg (by decide)]⟩, by omega⟩
    · rw [upd_n _ _ c, upd_n _ _ c, upd_n _ _ c, if_neg c, if_neg c, if_neg c]
      exact a7 i (by omega)
theorem kC_silent (h : kC t b σ0 σ e k nm ln sl) (hk : 1 ≤ k) : fT_markSilent σ = some ((), z_up σ (35, 0, 0) (k - 1) 1) ∧ kC t b σ0 (z_up σ (35, 0, 0) (k - 1) 1) e k nm ln (kUb sl (k - 1) true) := by
  obtain ⟨a1, a2, ⟨a3, a4, a5, a6⟩, a7, a8⟩ := id h
  have nb : vp_nar .boolean 1 = 1 := by decide +kernel
  have e1 : nI k - 1 = nI (k - 1) := by
    rw [show (1 : Int32) = nI 1 from by decide +kernel]
    exact pk_sub hk
  constructor
  · unfold fT_markSilent
    rw [a3, if_neg (nI_nle (by omega) (by omega)), if_neg (by
      rw [show (7 : Int32) = nI 7 from by decide +kernel]
      exact nI_nlt (by omega) (by decide)), e1, if_pos (nI_inz (by omega) (by decide)), nI_clamp (by omega), nb]
    rfl
  · refine ⟨kT_up a1 (by decide) (fun q => absurd q (by decide)), a2, ⟨?_, ?_, ?_, ?_⟩, fun i hi => ?_, kFr_up a8 (by decide) (by decide)⟩
    · rw [z_up_n _ _ _ (by decide)]; exact a3
    · rw [z_up_n _ _ _ (by decide)]; exact a4
    · rw [z_up_n _ _ _ (by decide)]; exact a5
    · rw [z_up_n _ _ _ (by decide)]; exact a6
    · obtain ⟨⟨r3, r4, r5⟩, r6⟩ := a7 i hi
      rw [z_up_n _ _ _ (by decide), z_up_n _ _ _ (by decide), z_up_s]
      unfold kUb
      by_cases c : i = k - 1
      · rw [c, upd_s, if_pos rfl, if_pos rfl, ← c]
        exact ⟨⟨r3, r4, rfl⟩, r6⟩
      · rw [upd_n _ _ c, if_neg c]
        exact ⟨⟨r3, r4, r5⟩, r6⟩
end kclass
