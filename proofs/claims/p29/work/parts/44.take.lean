/-! the same on the class's side -/
/-- the class's order of a state: cells, latest numbers, answers -/
def zl_lay (g h : Nat → Int32) : Prop := (∀ q, q < 8 → h q = g q) ∧ ∀ k, k < 6 → h (8 + k) = g (8 + 2 * k) ∧ h (14 + k) = g (9 + 2 * k)
theorem lit_nI {x : Int32} {a : Nat} (b : Nat) (hx : x = nI a) : x + nI b = nI (a + b) := by rw [hx, nI_add]
set_option maxHeartbeats 1000000 in
theorem eS_take {a0 : zJ} {w i P cl ce : Nat} {g : Nat → Int32} (σ : zS) (hn : z_nx a0 ≠ (11, w, i)) (hP : P + 6 ≤ 240) (hc : cl < 6) (he : ce < 8) (h1 : σ.1 (11, w, i) (P + 1) = nI cl) (h4 : σ.1 (11, w, i) (P + 4) = nI ce) (hg : zl_lay g (σ.1 (z_nx a0))) : ∃ σ1, fS_take a0 w i (nI P) σ = some ((), σ1) ∧ zl_lay (mTake g (fun q => σ.1 (11, w, i) (P + q)) cl ce) (σ1.1 (z_nx a0)) ∧ (∀ a : zJ, a ≠ z_nx a0 → σ1.1 a = σ.1 a) ∧ σ1.2 = σ.2 := by
  have i1 : nI P + 1 = nI (P + 1) := nI_1 P
  have i2 : nI P + 2 = nI (P + 2) := nI_lit P (by decide +kernel)
  have i3 : nI P + 3 = nI (P + 3) := nI_lit P (by decide +kernel)
  have i4 : nI P + 4 = nI (P + 4) := nI_lit P (by decide +kernel)
  have i5 : nI P + 5 = nI (P + 5) := nI_lit P (by decide +kernel)
  have k1 : (nI (P + 1)).toNatClampNeg = P + 1 := nI_clamp (by omega)
  have k2 : (nI (P + 2)).toNatClampNeg = P + 2 := nI_clamp (by omega)
  have k3 : (nI (P + 3)).toNatClampNeg = P + 3 := nI_clamp (by omega)
  have k4 : (nI (P + 4)).toNatClampNeg = P + 4 := nI_clamp (by omega)
  have k5 : (nI (P + 5)).toNatClampNeg = P + 5 := nI_clamp (by omega)
  have g1 : z_in (nI (P + 1)) 240 = true := nI_inz (by omega) (by decide)
  have g2 : z_in (nI (P + 2)) 240 = true := nI_inz (by omega) (by decide)
  have g3 : z_in (nI (P + 3)) 240 = true := nI_inz (by omega) (by decide)
  have g4 : z_in (nI (P + 4)) 240 = true := nI_inz (by omega) (by decide)
  have g5 : z_in (nI (P + 5)) 240 = true := nI_inz (by omega) (by decide)
  have n0 : ¬ nI P < 0 := nI_pos (by omega)
  have n1 : nI P ≤ 240 - 6 := by
    rw [show (240 : Int32) - 6 = nI 234 from by decide +kernel]
    exact nI_le (by omega) (by decide)
  have y8 : (8 : Int32) + nI cl = nI (8 + cl) := lit_nI cl (by decide +kernel)
  have y14 : (14 : Int32) + nI cl = nI (14 + cl) := lit_nI cl (by decide +kernel)
  have k8 : (nI (8 + cl)).toNatClampNeg = 8 + cl := nI_clamp (by omega)
  have k14 : (nI (14 + cl)).toNatClampNeg = 14 + cl := nI_clamp (by omega)
  have kce : (nI ce).toNatClampNeg = ce := nI_clamp (by omega)
  have g8 : z_in (nI (8 + cl)) 20 = true := nI_inz (by omega) (by decide)
  have g14 : z_in (nI (14 + cl)) 20 = true := nI_inz (by omega) (by decide)
  have gce : z_in (nI ce) 20 = true := nI_inz (by omega) (by decide)
  obtain ⟨h, eh⟩ : ∃ h : Nat → Int32, h = σ.1 (z_nx a0) := ⟨_, rfl⟩
  obtain ⟨ee, eee⟩ : ∃ ee : Nat → Int32, ee = fun q => σ.1 (11, w, i) (P + q) := ⟨_, rfl⟩
  have a2 : σ.1 (11, w, i) (P + 2) = ee 2 := by rw [eee]
  have a3 : σ.1 (11, w, i) (P + 3) = ee 3 := by rw [eee]
  have a5 : σ.1 (11, w, i) (P + 5) = ee 5 := by rw [eee]
  have e0 : fS_take a0 w i (nI P) σ = if h (8 + cl) < ee 2 then some ((), z_up (z_up (z_up σ (z_nx a0) ce (mAf (ee 3) (h ce) (ee 5))) (z_nx a0) (8 + cl) (ee 2)) (z_nx a0) (14 + cl) (mAn (ee 3) (h ce) (ee 5))) else some ((), σ) := by
    unfold fS_take
    have m1 : ∀ (t : zS) (q : Nat) (x : Int32), (z_up t (z_nx a0) q x).1 (11, w, i) = t.1 (11, w, i) := fun t q x => z_up_n t q x (fun hh => hn hh.symm)
    have m2 : ∀ (q : Nat) (x : Int32), (z_up σ (z_nx a0) q x).1 (z_nx a0) = upd h q x := fun q x => by rw [z_up_s, eh]
    have m3 : ∀ (q : Nat) (x : Int32) (q2 : Nat) (x2 : Int32), (z_up (z_up σ (z_nx a0) q x) (z_nx a0) q2 x2).1 (z_nx a0) = upd (upd h q x) q2 x2 := fun q x q2 x2 => by rw [z_up_s, m2]
    have u1 : upd (upd h ce (mAf (ee 3) (h ce) (ee 5))) (8 + cl) (ee 2) ce = mAf (ee 3) (h ce) (ee 5) := by rw [upd_n _ _ (by omega), upd_s]
    rw [if_neg n0, if_pos n1]
    simp only [i1, i2, i3, i4, i5, k1, k2, k3, k4, k5, g1, g2, g3, g4, g5, if_true, z_let, h1, h4, eX_isClient hc, eX_isCell he, z_bde, y8, y14, k8, k14, g8, g14, gce, kce, a2, a3, a5, ← eh, eX_cellBehind, m1, m2, m3, u1, eX_answerTo, show ¬ ((1 : Int32) = 0) from by decide, if_false]
  have hlt : h (8 + cl) = g (8 + 2 * cl) := by rw [eh]; exact (hg.2 cl hc).1
  have hce : h ce = g ce := by rw [eh]; exact hg.1 ce he
  rw [← eh] at hg
  unfold mTake
  by_cases hp : g (8 + 2 * cl) < ee 2
  · refine ⟨z_up (z_up (z_up σ (z_nx a0) ce (mAf (ee 3) (h ce) (ee 5))) (z_nx a0) (8 + cl) (ee 2)) (z_nx a0) (14 + cl) (mAn (ee 3) (h ce) (ee 5)), by rw [e0, hlt, if_pos hp], ?_, fun a ha => by rw [z_up_n _ _ _ ha, z_up_n _ _ _ ha, z_up_n _ _ _ ha], rfl⟩
    have hp2 : g (8 + 2 * cl) < (fun q => σ.1 (11, w, i) (P + q)) 2 := by rw [← eee]; exact hp
    rw [if_pos hp2, ← eee, z_up_s, z_up_s, z_up_s, ← eh, hce]
    refine ⟨fun q hq => ?_, fun k hk => ⟨?_, ?_⟩⟩
    · dsimp only
      rw [upd_n _ _ (by omega), upd_n _ _ (by omega), if_neg (by omega), if_neg (by omega)]
      by_cases q3 : q = ce
      · subst q3
        rw [upd_s, if_pos rfl]
      · rw [upd_n _ _ q3, if_neg q3]
        exact hg.1 q hq
    · dsimp only
      rw [upd_n _ _ (by omega), if_neg (by omega)]
      by_cases q2 : k = cl
      · subst q2
        rw [upd_s, if_pos rfl]
      · rw [upd_n _ _ (by omega), if_neg (by omega), upd_n _ _ (by omega), if_neg (by omega)]
        exact (hg.2 k hk).1
    · dsimp only
      by_cases q2 : k = cl
      · subst q2
        rw [upd_s, if_pos rfl]
      · rw [upd_n _ _ (by omega), if_neg (by omega), upd_n _ _ (by omega), if_neg (by omega), upd_n _ _ (by omega), if_neg (by omega)]
        exact (hg.2 k hk).2
  · refine ⟨σ, by rw [e0, hlt, if_neg hp], ?_, fun _ _ => rfl, rfl⟩
    have hp2 : ¬ g (8 + 2 * cl) < (fun q => σ.1 (11, w, i) (P + q)) 2 := by rw [← eee]; exact hp
    rw [if_neg hp2, ← eh]
    exact hg
theorem eS_take0 (a0 : zJ) (w i : Nat) (σ : zS) : fS_take a0 w i (-1) σ = some ((), σ) := by
  unfold fS_take
  rw [if_pos (by decide +kernel)]
