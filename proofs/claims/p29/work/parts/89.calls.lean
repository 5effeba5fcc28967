/-! the reading calls, of class and model -/
/-- what a keeper must be for the calls that tell of it -/
def yKo (W : yW) (k : Nat) : Prop := W.1 (10, 0, k) 0 ≤ 1 ∧ W.1 (10, 0, k) 1 ≤ 1 ∧ W.1 (10, 0, k) 4 ≤ 2 ∧ (W.1 (10, 0, k) 4 = 0 → W.1 (10, 0, k) 9 = 0) ∧ (W.1 (10, 0, k) 4 ≠ 2 → W.1 (10, 0, k) 10 = 0) ∧ (W.1 (10, 0, k) 1 ≠ 0 → W.1 (10, 0, k) 4 = 0) ∧ W.1 (10, 0, k) 5 ≤ W.1 (10, 0, k) 7
theorem y_n10 : ¬ ((1 : Int32) = 0) := by decide
section ycalls
variable {τ0 τ : zS} {W : yW}
theorem c_keeper (h : mR τ0 τ W) (hK : ∀ k, k < W.1 (0, 0, 0) 3 → yKo W k) (x y : Int32) : ∃ r, fX_keeper x y (cE W) = some (r, cE W) ∧ fM_keeper x y τ = some (r, τ) := by
  have hN := mR_N h
  unfold fX_keeper fM_keeper
  rcases x_orK W x with ⟨k, hk, rfl⟩ | hx
  · obtain ⟨k0, k1, k4, k9, k10, kf, k57⟩ := hK k hk
    have mo := m_of h hk
    rw [x_isKeeper W hN hk, m_isKeeper h hk, z_bde, z_bde, if_neg y_n10, if_neg y_n10, if_pos (nI_inz (by omega) (by decide)), nI_clamp (by omega)]
    unfold fK_tell
    simp only [mo, yRd, z_bde]
    by_cases c0 : y = 0
    · exact ⟨_, by rw [if_pos c0, z_bde], by rw [if_pos c0]⟩
    rw [if_neg c0, if_neg c0]
    by_cases c1 : y = 1
    · exact ⟨_, by rw [if_pos c1, z_bde], by rw [if_pos c1]⟩
    rw [if_neg c1, if_neg c1]
    by_cases c2 : y = 2
    · exact ⟨_, by rw [if_pos c2, z_bde], by rw [if_pos c2]⟩
    rw [if_neg c2, if_neg c2]
    by_cases c3 : y = 3
    · exact ⟨_, by rw [if_pos c3, z_bde], by rw [if_pos c3]⟩
    rw [if_neg c3, if_neg c3]
    by_cases c4 : y = 4
    · exact ⟨_, by rw [if_pos c4, z_bde], by rw [if_pos c4]⟩
    rw [if_neg c4, if_neg c4]
    by_cases c5 : y = 5
    · exact ⟨_, by rw [if_pos c5, z_bde], by rw [if_pos c5]⟩
    rw [if_neg c5, if_neg c5]
    by_cases c6 : y = 6
    · rw [if_pos c6, if_pos c6]
      by_cases d : W.1 (10, 0, k) 1 = 0
      · exact ⟨0, by rw [d, if_pos nI_0, z_bde], by rw [d, nI_0]⟩
      · have : W.1 (10, 0, k) 1 = 1 := by omega
        exact ⟨1, by rw [this, if_neg (by decide +kernel), z_bde], by rw [this]; rfl⟩
    rw [if_neg c6, if_neg c6]
    by_cases c7 : y = 7
    · rw [if_pos c7, if_pos c7]
      by_cases d : W.1 (10, 0, k) 4 = 0
      · exact ⟨0, by rw [z_bde, k9 d, nI_0], by rw [d, if_pos nI_0]⟩
      · exact ⟨_, by rw [z_bde], by rw [if_neg (nI_ne0 (by omega) (by omega)), m_of7 h hk d, z_bde]⟩
    rw [if_neg c7, if_neg c7]
    by_cases c8 : y = 8
    · rw [if_pos c8, if_pos c8]
      by_cases d : W.1 (10, 0, k) 4 = 2
      · exact ⟨_, by rw [z_bde], by rw [if_pos (by rw [d]; decide +kernel), (m_of8 h hk d).1, z_bde]⟩
      · exact ⟨0, by rw [z_bde, k10 d, nI_0], by rw [if_neg (by rw [show (2 : Int32) = nI 2 from by decide +kernel]; exact fun q => d ((nI_eq (by omega) (by decide)).mp q))]⟩
    rw [if_neg c8, if_neg c8]
    by_cases c9 : y = 9
    · rw [if_pos c9, if_pos c9, m_isVoter h hk, z_bde]
      by_cases d : W.1 (10, 0, k) 0 = 0
      · exact ⟨0, by rw [d, if_pos nI_0, z_bde], by rw [if_pos d, if_pos rfl]⟩
      · exact ⟨1, by rw [if_neg (nI_ne0 (by omega) (by omega)), z_bde], by rw [if_neg d, if_neg y_n10]⟩
    rw [if_neg c9, if_neg c9]
    exact ⟨-2, by rw [z_bde], rfl⟩
  · exact ⟨-2, by rw [x_noKeeper W hN hx, z_bde, if_pos rfl], by rw [m_noKeeper h hx, z_bde, if_pos rfl]⟩
theorem c_state (h : mR τ0 τ W) (x y : Int32) : ∃ r, fX_state x y (cE W) = some (r, cE W) ∧ fM_state x y τ = some (r, τ) := by
  have hN := mR_N h
  unfold fX_state fM_state
  rcases x_orK W x with ⟨k, hk, rfl⟩ | hx
  · rw [x_isKeeper W hN hk, m_isKeeper h hk, z_bde, z_bde, if_neg y_n10, if_neg y_n10]
    rcases y_or7 8 y with ⟨c, hc, rfl⟩ | hy
    · rw [eX_isCell hc, z_bde, if_neg y_n10, if_pos (nI_inz (by omega) (by decide)), nI_clamp (by omega), m_isInY (n := 8) τ rfl (by decide +kernel) (by decide) hc, z_bde, if_neg y_n10]
      unfold fS_cellAt
      rw [eX_isCell hc, z_bde, if_neg y_n10, if_pos (nI_inz (by omega) (by decide)), nI_clamp (by omega), z_bde, show (30 : Int32) + nI c = nI (30 + c) from lit_nI c (by decide +kernel), eM_of τ (by omega) (by omega), z_bde]
      have l := (h.2.1.1 k hk).2.2.2.2.2.1 c hc
      refine ⟨W.2.1 (15, 0, k) c, rfl, ?_⟩
      rw [l, ← Nat.add_assoc]
    · exact ⟨-1000000, by rw [x_isCellN hy, z_bde, if_pos rfl], by rw [m_isInO (n := 8) τ rfl (by decide +kernel) (by decide) (by decide) hy, z_bde, if_pos rfl]⟩
  · exact ⟨-1000000, by rw [x_noKeeper W hN hx, z_bde, if_pos rfl], by rw [m_noKeeper h hx, z_bde, if_pos rfl]⟩
theorem c_client (h : mR τ0 τ W) (x y w : Int32) : ∃ r, fX_client x y w (cE W) = some (r, cE W) ∧ fM_client x y w τ = some (r, τ) := by
  have hN := mR_N h
  unfold fX_client fM_client
  rcases x_orK W x with ⟨k, hk, rfl⟩ | hx
  · rw [x_isKeeper W hN hk, m_isKeeper h hk, z_bde, z_bde, if_neg y_n10, if_neg y_n10]
    rcases y_or7 6 y with ⟨c, hc, rfl⟩ | hy
    · rw [eX_isClient hc, z_bde, if_neg y_n10, if_pos (nI_inz (by omega) (by decide)), nI_clamp (by omega), m_isInY (n := 6) τ rfl (by decide +kernel) (by decide) hc, z_bde, if_neg y_n10]
      have l := (h.2.1.1 k hk).2.2.2.2.2.2 c hc
      have g : ∀ j, ((38 : Int32) + 2 * nI c) + nI j = nI (38 + 2 * c + j) := fun j => by
        rw [show (38 : Int32) = nI 38 from by decide +kernel, show (2 : Int32) = nI 2 from by decide +kernel, pk_mul, nI_add, nI_add]
      rcases y_or7 2 w with ⟨j, hj, rfl⟩ | hw
      · rw [m_isInY (n := 2) τ rfl (by decide +kernel) (by decide) hj, z_bde, if_neg y_n10, g, eM_of τ (by omega) (by omega), z_bde]
        by_cases cj : j = 0
        · subst cj
          rw [if_pos nI_0]
          unfold fS_latestOf
          rw [eX_isClient hc, z_bde, if_neg y_n10, show (8 : Int32) + nI c = nI (8 + c) from lit_nI c (by decide +kernel), if_pos (nI_inz (by omega) (by decide)), nI_clamp (by omega), z_bde]
          refine ⟨W.2.1 (15, 0, k) (8 + c), rfl, ?_⟩
          rw [l.1]
          exact congrArg (fun i => some (al τ i, τ)) (by omega)
        · have : j = 1 := by omega
          subst this
          rw [if_neg (by decide +kernel), if_pos (by decide +kernel)]
          unfold fS_answerOf
          rw [eX_isClient hc, z_bde, if_neg y_n10, show (14 : Int32) + nI c = nI (14 + c) from lit_nI c (by decide +kernel), if_pos (nI_inz (by omega) (by decide)), nI_clamp (by omega), z_bde]
          refine ⟨W.2.1 (15, 0, k) (14 + c), rfl, ?_⟩
          rw [l.2]
          exact congrArg (fun i => some (al τ i, τ)) (by omega)
      · exact ⟨-1000000, by rw [if_neg (fun e => hw 0 (by decide) (by rw [e, nI_0])), if_neg (fun e => hw 1 (by decide) (by rw [e]; decide +kernel))], by rw [m_isInO (n := 2) τ rfl (by decide +kernel) (by decide) (by decide) hw, z_bde, if_pos rfl]⟩
    · exact ⟨-1000000, by rw [x_isClientN hy, z_bde, if_pos rfl], by rw [m_isInO (n := 6) τ rfl (by decide +kernel) (by decide) (by decide) hy, z_bde, if_pos rfl]⟩
  · exact ⟨-1000000, by rw [x_noKeeper W hN hx, z_bde, if_pos rfl], by rw [m_noKeeper h hx, z_bde, if_pos rfl]⟩
theorem c_peer (h : mR τ0 τ W) (hK : ∀ k, k < W.1 (0, 0, 0) 3 → yKo W k) (x y w : Int32) : ∃ r, fX_peer x y w (cE W) = some (r, cE W) ∧ fM_peer x y w τ = some (r, τ) := by
  have hN := mR_N h
  unfold fX_peer fM_peer
  rcases x_orK W x with ⟨k, hk, rfl⟩ | hx
  · obtain ⟨k0, k1, k4, k9, k10, kf, k57⟩ := hK k hk
    rw [x_isLeading W hN hk k1 k4, m_isKeeper h hk, z_bde, z_bde, if_neg y_n10]
    rcases x_orK W y with ⟨o, ho, rfl⟩ | hy
    · rw [m_isKeeper h ho, z_bde, if_neg y_n10]
      by_cases c1 : W.1 (10, 0, k) 4 = 2
      · have c0 : W.1 (10, 0, k) 1 = 0 ∧ W.1 (10, 0, k) 4 = 2 := ⟨by
          by_cases e : W.1 (10, 0, k) 1 = 0
          · exact e
          · have := kf e; omega, c1⟩
        rw [if_pos c0, if_neg y_n10, x_isKeeper W hN ho, z_bde, if_neg y_n10]
        by_cases c2 : nI k = nI o
        · exact ⟨-1, by rw [if_pos c2], by rw [if_pos c2]⟩
        · have m8 := (m_of8 h hk c1).2 o (by omega)
          have r2 : nI (W.1 (10, 0, k) 4) = 2 := by rw [c1]; decide +kernel
          have ik : z_in (nI k) 7 = true := nI_inz (by omega) (by decide)
          have io : z_in (nI o) 7 = true := nI_inz (by omega) (by decide)
          simp only [ik, io, if_true, nI_clamp (show k < 2147483648 by omega), nI_clamp (show o < 2147483648 by omega)]
          rw [if_neg c2, if_neg c2, (m_of h hk).2.2.2.2.2.1, z_bde, if_pos r2]
          rw [show (50 : Int32) + nI o = nI (50 + o) from lit_nI o (by decide +kernel), show (57 : Int32) + nI o = nI (57 + o) from lit_nI o (by decide +kernel), show (64 : Int32) + nI o = nI (64 + o) from lit_nI o (by decide +kernel), m8.1, m8.2.1, m8.2.2, z_bde, z_bde, z_bde]
          simp only [yRd]
          by_cases d0 : w = 0
          · exact ⟨_, by rw [if_pos d0], by rw [if_pos d0]⟩
          rw [if_neg d0, if_neg d0]
          by_cases d1 : w = 1
          · exact ⟨_, by rw [if_pos d1], by rw [if_pos d1]⟩
          rw [if_neg d1, if_neg d1]
          by_cases d2 : w = 2
          · exact ⟨_, by rw [if_pos d2], by rw [if_pos d2]⟩
          rw [if_neg d2, if_neg d2]
          exact ⟨_, rfl, rfl⟩
      · have nc : ¬ (W.1 (10, 0, k) 1 = 0 ∧ W.1 (10, 0, k) 4 = 2) := fun e => c1 e.2
        rw [if_neg nc, if_pos rfl]
        refine ⟨-1, rfl, ?_⟩
        by_cases c2 : nI k = nI o
        · rw [if_pos c2]
        · rw [if_neg c2, (m_of h hk).2.2.2.2.2.1, z_bde, if_neg (by rw [show (2 : Int32) = nI 2 from by decide +kernel]; exact fun q => c1 ((nI_eq (by omega) (by decide)).mp q))]
    · rw [m_noKeeper h hy, z_bde, if_pos rfl]
      refine ⟨-1, ?_, rfl⟩
      by_cases c0 : W.1 (10, 0, k) 1 = 0 ∧ W.1 (10, 0, k) 4 = 2
      · rw [if_pos c0, if_neg y_n10, x_noKeeper W hN hy, z_bde, if_pos rfl]
      · rw [if_neg c0, if_pos rfl]
  · exact ⟨-1, by rw [x_noLead W hN hx, z_bde, if_pos rfl], by rw [m_noKeeper h hx, z_bde, if_pos rfl]⟩
theorem c_entry (h : mR τ0 τ W) (a : yA W 0) (hB : ∀ z i, W.1 z i < 50000) (x y w : Int32) : ∃ r, fX_entry x y w (cE W) = some (r, cE W) ∧ fM_entry x y w τ = some (r, τ) := by
  have hN := mR_N h
  unfold fX_entry fM_entry
  rcases x_orK W x with ⟨k, hk, rfl⟩ | hx
  · have b5 := hB (10, 0, k) 5
    have b7 := hB (10, 0, k) 7
    have l40 := a.2.1 k
    have mo := m_of h hk
    rw [x_isKeeper W hN hk, m_isKeeper h hk, z_bde, z_bde, if_neg y_n10, if_neg y_n10, mo.2.2.1, z_bde, mo.2.2.2.2.1, z_bde]
    have wc : ∀ σ : zS, (¬ w < 0 ∧ w ≤ 5) ∨ (w < 0 ∨ ¬ w ≤ 5) := fun _ => by
      by_cases c : w < 0
      · exact Or.inr (Or.inl c)
      · by_cases d : w ≤ 5
        · exact Or.inl ⟨c, d⟩
        · exact Or.inr (Or.inr d)
    by_cases cy : ∃ e, W.1 (10, 0, k) 5 < e ∧ e ≤ W.1 (10, 0, k) 7 ∧ y = nI e
    · obtain ⟨e, e1, e2, rfl⟩ := cy
      rw [if_neg (nI_ge e1 (by omega)), if_neg (nI_nlt e2 (by omega))]
      rcases y_or7 6 w with ⟨j, hj, rfl⟩ | hw
      · have pl := x_place (k := k) (e := e) W (fun z i => by have := hB z i; omega) e1 e2 (by omega)
        have en := m_entry (q := j) h hk e1 e2 hj
        refine ⟨(cE W).1 (11, 0, k) (6 * (e - W.1 (10, 0, k) 5 - 1) + j), ?_, ?_⟩
        · unfold fK_part
          rw [if_neg (nI_pos (by omega)), if_pos (by rw [show (5 : Int32) = nI 5 from by decide +kernel]; exact nI_le (by omega) (by decide)), if_pos (nI_inz (by omega) (by decide)), nI_clamp (show k < 2 ^ 31 by omega), pl, z_bde, if_neg (by rw [yM1 (by omega)]; exact id), nI_add, if_pos (nI_inz (by omega) (by decide)), nI_clamp (by omega), z_bde]
        · rw [m_isInY (n := 6) τ rfl (by decide +kernel) (by decide) hj, z_bde, if_neg y_n10, m_entryAt h hk e1, z_bde, nI_add, if_pos (nI_inz (by omega) (by decide)), nI_clamp (by omega)]
          exact congrArg (fun x => some (x, τ)) en
      · refine ⟨-1000000, ?_, by rw [m_isInO (n := 6) τ rfl (by decide +kernel) (by decide) (by decide) hw, z_bde, if_pos rfl]⟩
        by_cases c : w < 0
        · rw [if_pos c]
        · rw [if_neg c, if_neg]
          intro d
          obtain ⟨j, hj, rfl⟩ := nI_of c
          rw [show (5 : Int32) = nI 5 from by decide +kernel, nI_leI hj (by decide)] at d
          exact hw j (by omega) rfl
    · refine ⟨-1000000, ?_, ?_⟩
      · by_cases c : w < 0
        · rw [if_pos c]
        · rw [if_neg c]
          by_cases d : w ≤ 5
          · have pn : fK_placeOf 0 k y (cE W) = some (-1, cE W) := by
              unfold fK_placeOf
              simp only [yRd]
              by_cases g1 : y ≤ nI (W.1 (10, 0, k) 5)
              · rw [if_pos g1]
              · rw [if_neg g1]
                have p : ¬ y < 0 := fun hy => by
                  have h0 : (0 : Int32) ≤ nI (W.1 (10, 0, k) 5) := nI_pos' (by omega)
                  rw [Int32.lt_iff_toInt_lt] at hy
                  rw [Int32.le_iff_toInt_le] at h0 g1
                  omega
                obtain ⟨j, hj, rfl⟩ := nI_of p
                have g1' : ¬ j ≤ W.1 (10, 0, k) 5 := fun q => g1 ((nI_leI hj (by omega)).mpr q)
                rw [if_pos (nI_lt (by
                  by_cases e : W.1 (10, 0, k) 7 < j
                  · exact e
                  · exact absurd ⟨j, by omega, by omega, rfl⟩ cy) (by omega))]
            unfold fK_part
            rw [if_pos d, if_pos (nI_inz (by omega) (by decide)), nI_clamp (show k < 2 ^ 31 by omega), pn, z_bde, if_pos rfl, z_bde]
          · rw [if_neg d]
      · by_cases g1 : y ≤ nI (W.1 (10, 0, k) 5)
        · rw [if_pos g1]
        · have p : ¬ y < 0 := fun hy => by
            have h0 : (0 : Int32) ≤ nI (W.1 (10, 0, k) 5) := nI_pos' (by omega)
            rw [Int32.lt_iff_toInt_lt] at hy
            rw [Int32.le_iff_toInt_le] at h0 g1
            omega
          obtain ⟨j, hj, rfl⟩ := nI_of p
          have g1' : ¬ j ≤ W.1 (10, 0, k) 5 := fun q => g1 ((nI_leI hj (by omega)).mpr q)
          rw [if_neg g1, if_pos (nI_lt (by
            by_cases e : W.1 (10, 0, k) 7 < j
            · exact e
            · exact absurd ⟨j, by omega, by omega, rfl⟩ cy) (by omega))]
  · exact ⟨-1000000, by rw [x_noKeeper W hN hx, z_bde, if_pos rfl], by rw [m_noKeeper h hx, z_bde, if_pos rfl]⟩
theorem c_slot (h : mR τ0 τ W) (hB : ∀ z i, W.1 z i < 50000) (x y : Int32) : ∃ r, fX_slot x y (cE W) = some (r, cE W) ∧ fM_slot x y τ = some (r, τ) := by
  unfold fX_slot fM_slot
  rcases x_orS x with ⟨s, hs, rfl⟩ | hx
  · rw [x_isFull W hs hB, m_hasLetter h hB hs, z_bde, z_bde]
    by_cases c : W.1 (20, 0, s) 0 = 0
    · exact ⟨-1, by rw [if_pos c, if_pos rfl], by rw [if_pos c, if_pos rfl]⟩
    · obtain ⟨m1, m2⟩ := h.2.1.2.1 s hs
      have m3 := (m2 c).1
      rw [if_neg c, if_neg y_n10, if_neg y_n10, if_pos (nI_inz hs (by decide)), nI_clamp (by omega)]
      rcases y_or7 9 y with ⟨f, hf, rfl⟩ | hy
      · rw [m_isInY (n := 9) τ rfl (by decide +kernel) (by decide) hf, z_bde, if_neg y_n10, eM_slotOf τ hs (by omega), z_bde]
        unfold fL_tell
        rcases (show f = 0 ∨ f = 1 ∨ f = 2 ∨ f = 3 ∨ f = 4 ∨ f = 5 ∨ f = 6 ∨ f = 7 ∨ f = 8 by omega) with rfl | rfl | rfl | rfl | rfl | rfl | rfl | rfl | rfl
        · refine ⟨iI ((W.1 (20, 0, s) 0 : Int) - 1), ?_, ?_⟩
          · rw [if_pos nI_0, z_bde]; rfl
          · exact congrArg (fun x => some (x, τ)) m1
        all_goals refine ⟨nI (W.1 (20, 0, s) _), ?_, congrArg (fun x => some (x, τ)) (m3 _ (by decide) (by decide))⟩
        all_goals simp (disch := decide) only [yCmp, yRd, z_bde, Nat.reduceEqDiff, if_false, if_true, Nat.succ_ne_zero, ↓reduceIte]
      · refine ⟨-1, ?_, by rw [m_isInO (n := 9) τ rfl (by decide +kernel) (by decide) (by decide) hy, z_bde, if_pos rfl]⟩
        unfold fL_tell
        have n : ∀ (j : Nat) (ji : Int32), j < 9 → ji = nI j → ¬ y = ji := fun j ji hj e1 e2 => hy j hj (by rw [e2, e1])
        rw [if_neg (n 0 0 (by decide) (by decide +kernel)), if_neg (n 1 1 (by decide) (by decide +kernel)), if_neg (n 2 2 (by decide) (by decide +kernel)), if_neg (n 3 3 (by decide) (by decide +kernel)), if_neg (n 4 4 (by decide) (by decide +kernel)), if_neg (n 5 5 (by decide) (by decide +kernel)), if_neg (n 6 6 (by decide) (by decide +kernel)), if_neg (n 7 7 (by decide) (by decide +kernel)), if_neg (n 8 8 (by decide) (by decide +kernel)), z_bde]
  · exact ⟨-1, by rw [x_noSlot W hx, z_bde, if_pos rfl], by rw [m_noLetter τ hx, z_bde, if_pos rfl]⟩
end ycalls
