/-! keepers; the start; all -/
/-- the model's row as at first -/
theorem mW_new {B : Nat → Int32} {W : yW} (h0 : ∀ j, j < 5000 → B j = z_all0 j) (hN : W.1 (0, 0, 0) 3 ≤ 7) (hk : ∀ k, k < W.1 (0, 0, 0) 3 → (∀ f, 1 ≤ f → f ≤ 10 → W.1 (10, 0, k) f = 0) ∧ ∀ q, q < 20 → W.2.1 (13, 0, k) q = 0 ∧ W.2.1 (15, 0, k) q = 0) (hs : ∀ s, s < 40 → W.1 (20, 0, s) 0 = 0) (h4 : W.1 (4, 0, 0) 4 = 0) : mW B W 0 := by
  have m1 : iI (((0 : Nat) : Int) - 1) = -1 := by decide +kernel
  refine ⟨fun k hk' => ?_, fun s hs' => ?_, ?_⟩
  · obtain ⟨f, r⟩ := hk k hk'
    have k7 : k < 7 := by omega
    have z0 : ∀ i, i < 320 → i ≠ 1 → B (320 * k + i) = 0 := fun i hi h1 => by
      rw [h0 _ (by omega)]
      unfold z_all0
      rw [if_neg (by omega), if_neg (by omega)]
    have z1 : B (320 * k + 1) = -1 := by
      rw [h0 _ (by omega)]
      unfold z_all0
      rw [if_pos (by omega)]
    have lay : ∀ c, 10 ≤ c → c + 20 ≤ 60 → ∀ h : Nat → Int32, (∀ q, q < 20 → h q = 0) → zl_lay (fun q => B (320 * k + c + q)) h := fun c c1 c2 h hh => by
      refine ⟨fun q hq => ?_, fun j hj => ⟨?_, ?_⟩⟩
      · rw [hh q (by omega)]
        show (0 : Int32) = B (320 * k + c + q)
        rw [Nat.add_assoc, z0 _ (by omega) (by omega)]
      · rw [hh _ (by omega)]
        show (0 : Int32) = B (320 * k + c + (8 + 2 * j))
        rw [Nat.add_assoc, z0 _ (by omega) (by omega)]
      · rw [hh _ (by omega)]
        show (0 : Int32) = B (320 * k + c + (9 + 2 * j))
        rw [Nat.add_assoc, z0 _ (by omega) (by omega)]
    unfold mK
    rw [f 1 (by decide) (by decide), f 2 (by decide) (by decide), f 3 (by decide) (by decide), f 4 (by decide) (by decide), f 5 (by decide) (by decide), f 6 (by decide) (by decide), f 7 (by decide) (by decide), f 8 (by decide) (by decide), nI_0, m1]
    exact ⟨⟨z0 0 (by decide) (by decide), z1, z0 2 (by decide) (by decide), z0 3 (by decide) (by decide), z0 4 (by decide) (by decide), z0 5 (by decide) (by decide), z0 6 (by decide) (by decide), z0 9 (by decide) (by decide)⟩, fun q => absurd rfl q, fun q => absurd q (by decide), fun j hj => by omega, lay 10 (by decide) (by decide) _ (fun q hq => (r q hq).1), lay 30 (by decide) (by decide) _ (fun q hq => (r q hq).2)⟩
  · unfold mL
    rw [hs s hs', m1]
    refine ⟨?_, fun q => absurd rfl q⟩
    rw [h0 _ (by omega)]
    unfold z_all0
    rw [if_neg (by omega), if_pos (by omega)]
  · unfold mD
    rw [h4, nI_0]
    refine ⟨?_, fun i hi => by omega⟩
    rw [h0 _ (by decide)]
    decide +kernel
set_option maxHeartbeats 1000000 in
theorem st_keepers : zl_st_keepers yREL := by
  intro bl σ τ n hn h
  have hn : n < 512 := by omega
  obtain ⟨W, rfl, R⟩ := h
  obtain ⟨⟨I1, I2, I3, I4, I5⟩, m, ⟨T, H, J⟩, B⟩ := id R
  obtain ⟨⟨t, ht, t2, t3, t4⟩, -, -⟩ := id T
  obtain ⟨b, eb⟩ : ∃ b : Nat → Nat, b = fun j => ((cE W).1 (32, 0, 0) j).toBitVec.toNat % 2 ^ 8 := ⟨_, rfl⟩
  have hb : ∀ j, b j < 256 := fun j => by rw [eb]; exact Nat.mod_lt _ (by decide)
  have hbx : ∀ j, (cE W).1 (32, 0, 0) j &&& 255 = nI (b j) := fun j => by rw [eb]; exact pk_and _ 8 (by decide +kernel)
  obtain ⟨bk, s0, hbk, hs0, m12, m106, m107, mbits, msum⟩ := m.1.2
  obtain ⟨σ1, p1, p2⟩ := kC_parse (b := b) (σ := cE W) ⟨ht, hb, t2, fun j _ => hbx j⟩ (fun _ => 0) (fun _ => 0) (fun _ => false)
  obtain ⟨τ0, τ1, q1, q2, q3, q4, q5, q6⟩ := m_keepers (b := b) ht hb t3 hbk m12 (fun j hj => by rw [← t4 j hj]; exact hbx j) (fun _ => 0) (fun _ => 0) (fun _ => false)
  obtain ⟨r, er⟩ : ∃ r, r = kRun b t (t + 1) 0 0 0 (fun _ => 0) (fun _ => 0) (fun _ => false) := ⟨_, rfl⟩
  rw [← er] at p2 q2
  obtain ⟨r4, c4, c6, c7, c5, cF⟩ := p2
  obtain ⟨-, d7, d8, d13, dF, d0⟩ := q2
  have f1 : ∀ z : zJ, z ≠ (100, 0, 0) → z ≠ (102, 0, 0) → z ≠ (106, 0, 0) → z ≠ (107, 0, 0) → τ1.1 z = τ.1 z := fun z z0 z1 z2 z3 => (dF.1 z z0 z1 z2 z3).trans (q3 z z0 z1 z2 z3)
  have f12 : τ1.1 (100, 0, 0) 12 = nI bk := by rw [dF.2.2 12 (by decide), q6 12 (by decide)]; exact m12
  have f26 : τ1.1 (100, 0, 0) 26 = τ.1 (100, 0, 0) 26 := by rw [dF.2.2 26 (by decide), q6 26 (by decide)]
  have f5 : τ1.1 (100, 0, 0) 5 = 0 := by rw [dF.2.2 5 (by decide)]; exact q5
  have nTR : zT_r σ1 τ1 := ⟨⟨0, by decide, by rw [c4, nI_0], by rw [f5, nI_0], fun j hj => by omega⟩, by rw [c6, d7], by rw [c7, d8]⟩
  have sz : ∀ z : zJ, (z.1 < 31 ∨ 35 < z.1) → σ1.1 z = (cE W).1 z := cF.1
  by_cases c : r.1 = 0
  · obtain ⟨K7, k5, kv, k35⟩ := c5 c
    obtain ⟨s, s128, s106, s107, -, sb, sb0⟩ := d0 c
    obtain ⟨K, eK⟩ : ∃ K, K = r.2.2.1 := ⟨_, rfl⟩
    obtain ⟨sl, esl⟩ : ∃ sl, sl = r.2.2.2 := ⟨_, rfl⟩
    rw [← eK] at K7 k5 kv k35 s106 sb sb0
    rw [← esl] at kv k35 sb
    have e0 : σ1 = cE (W.1, σ1) := cE_re (fun z hz => sz z (Or.inl (by omega)))
    obtain ⟨W1, g1, g2, g3, g4⟩ := x_begin (sl := sl) K7 (W.1, σ1) k5 k35
    obtain ⟨W2, h1, h2, h3, h4, h5, h6⟩ := x_kept 3 0 z_fu W1 (by omega) (z_fu_big (by decide))
    rw [nI_0] at h1
    have a1 : ∀ z j, W2.1 z j = if z.1 = 10 ∧ z.2.1 = 0 ∧ z.2.2 < K ∧ j ≤ 10 then (if j = 0 then (if sl z.2.2 = true then 0 else 1) else 0) else if z.1 = 20 ∧ z.2.1 = 0 ∧ z.2.2 < 40 ∧ j = 0 then 0 else if z = (4, 0, 0) ∧ j = 4 then 0 else if z = (0, 0, 0) ∧ j = 3 then K else if z = (0, 0, 0) ∧ j = 4 then z_cnt (fun i => !sl i) K 0 else W.1 z j := fun z j => by rw [h2]; exact g2 z j
    have a3 : W2.1 (0, 0, 0) 3 = K := by rw [a1]; simp
    have a4 : W2.1 (0, 0, 0) 4 = z_cnt (fun i => !sl i) K 0 := by rw [a1]; simp
    have a44 : W2.1 (4, 0, 0) 4 = 0 := by rw [a1]; simp
    have a10 : ∀ k, k < K → W2.1 (10, 0, k) 0 = (if sl k = true then 0 else 1) ∧ ∀ f, 1 ≤ f → f ≤ 10 → W2.1 (10, 0, k) f = 0 := fun k hk => by
      refine ⟨by rw [a1, if_pos ⟨rfl, rfl, hk, by decide⟩, if_pos rfl], fun f f1 f2 => by rw [a1, if_pos ⟨rfl, rfl, hk, f2⟩, if_neg (by omega)]⟩
    have a20 : ∀ s, s < 40 → W2.1 (20, 0, s) 0 = 0 := fun s hs => by rw [a1, if_neg (by simp), if_pos ⟨rfl, rfl, hs, rfl⟩]
    have ao : ∀ t w k j, t ≠ 0 → t ≠ 4 → (t ≠ 10 ∨ w ≠ 0) → (t ≠ 20 ∨ w ≠ 0 ∨ j ≠ 0) → W2.1 (t, w, k) j = W.1 (t, w, k) j := fun t w k j t0 t4 t10 t20 => by
      rw [a1, if_neg (fun q => by have q1 : t = 10 := q.1; have q2 : w = 0 := q.2.1; omega), if_neg (fun q => by have q1 : t = 20 := q.1; have q2 : w = 0 := q.2.1; have q3 : j = 0 := q.2.2.2; omega), if_neg (fun q => t4 (by have := q.1; simp only [Prod.mk.injEq] at this; exact this.1)), if_neg (fun q => t0 (by have := q.1; simp only [Prod.mk.injEq] at this; exact this.1)), if_neg (fun q => t0 (by have := q.1; simp only [Prod.mk.injEq] at this; exact this.1))]
    have cle := z_cnt_le (fun i => !sl i) K 0
    have vot : z_cnt (fun i => !sl i) K 0 = yVot K (xV W2 0 10) := by
      unfold yVot
      refine z_cnt_congr K 0 (fun j _ hj => ?_)
      show (!sl j) = decide (W2.1 (10, 0, j) 0 ≠ 0)
      rw [(a10 j (by omega)).1]
      cases sl j <;> rfl
    have kb := kM_bits sb sb0 K7
    -- the model
    obtain ⟨τ2, b1, b2, b3, b4⟩ := eM_begin (z_up τ1 (100, 0, 0) 12 (nI (1 - bk)))
    have tz : ∀ z : zJ, z ≠ (100, 0, 0) → z ≠ (103, 0, 0) → z ≠ (105, 0, 0) → τ2.1 z = τ1.1 z := fun z z0 z1 z2 => by rw [b4.1 z z1 z2, z_up_n _ _ _ z0]
    have t0 : ∀ i, i ≠ 12 → τ2.1 (100, 0, 0) i = τ1.1 (100, 0, 0) i := fun i hi => by rw [b4.1 _ (by decide) (by decide), z_up_s, upd_n _ _ hi]
    have t12 : τ2.1 (100, 0, 0) 12 = nI (1 - bk) := by rw [b4.1 _ (by decide) (by decide), z_up_s, upd_s]
    have fx : fX_keepers (cE W) = some (nI K, cE W2) := by
      unfold fX_keepers
      rw [p1, z_bde, c6, c, if_pos nI_0, e0, g1, z_bde, h1]
      rw [h2] at a3
      rw [a3]
    have fm : fM_keepers τ = some (nI K, τ2) := by
      rw [q1]
      unfold fM_keepers_151
      rw [kM_good (by rw [d7, c, nI_0]), z_bde, if_neg (by decide), d13, z_let, b1, z_bde, t12, if_pos (nI_inz (by omega) (by decide)), nI_clamp (by omega), tz (106, 0, 0) (by decide) (by decide) (by decide), s106]
    have fr : ∀ z : zJ, 36 ≤ z.1 → z ≠ (37, 0, 0) → (cE W2).1 z = (cE W).1 z := fun z z1 z2 => by
      have y0 : ∀ i, ye z.1 i = 0 := fun i => by
        unfold ye
        rw [if_neg (by omega), if_neg (by omega), if_neg (by omega), if_neg (by omega)]
      funext i
      rw [cE_0 (y0 i), h3 z z2, g3, if_neg (by omega)]
      exact congrFun (sz z (Or.inr (by omega))) i
    have fr3 : ∀ z : zJ, z.1 = 31 ∨ z.1 = 32 → (cE W2).1 z = σ1.1 z := fun z z1 => by
      have y0 : ∀ i, ye z.1 i = 0 := fun i => by
        unfold ye
        rw [if_neg (by omega), if_neg (by omega), if_neg (by omega), if_neg (by omega)]
      funext i
      rw [cE_0 (y0 i), h3 z (fun q => by rw [q] at z1; simp at z1), g3, if_neg (by omega)]
    refine ⟨nI K, cE W2, τ2, fx, fm, W2, rfl, ⟨fun z i => ?_, fun w k i => ?_, fun w => ?_, fun w k => ?_, ?_⟩, ⟨⟨⟨?_, ?_, ?_⟩, 1 - bk, s, by omega, s128, t12, ?_, ?_, ?_, ?_⟩, ?_, fun _ _ => rfl, rfl⟩, ⟨?_, ?_, ?_⟩, fun b' hb' => ?_⟩
    · have := I1 z i
      rw [a1]
      split
      · split
        · split <;> omega
        · omega
      · split
        · omega
        · split
          · omega
          · split
            · omega
            · split <;> omega
    · rw [ao 11 w k i (by decide) (by decide) (by simp) (by simp), ao 21 w k i (by decide) (by decide) (by simp) (by simp)]
      exact I2 w k i
    · by_cases cw : w = 0
      · subst cw
        refine ⟨by rw [a3]; exact K7, fun k => ?_, fun s _ => ?_, by rw [a44]; decide⟩
        · by_cases ck : k < K
          · rw [(a10 k ck).2 7 (by decide) (by decide)]; omega
          · have e : ∀ j, W2.1 (10, 0, k) j = W.1 (10, 0, k) j := fun j => by rw [a1, if_neg (fun q => ck q.2.2.1), if_neg (by simp), if_neg (by simp), if_neg (by simp), if_neg (by simp)]
            rw [e, e]
            exact (I3 0).2.1 k
        · rw [ao 20 0 s 6 (by decide) (by decide) (by simp) (by simp)]
          exact (I4 0 s).2.2
      · refine yA_c (W := W) (fun z hz => funext fun j => ?_) (I3 w)
        obtain ⟨z1, z2, z3⟩ := z
        have hz : z2 = w := hz
        rw [a1]
        simp only [Prod.mk.injEq]
        rw [if_neg (by omega), if_neg (by omega), if_neg (by omega), if_neg (by omega), if_neg (by omega)]
    · refine ⟨?_, ?_, ?_⟩
      · have := (I4 w k).1
        rw [a1]
        simp only [Prod.mk.injEq]
        split
        · split
          · split <;> omega
          · omega
        · split
          · omega
          · split
            · omega
            · split
              · omega
              · split <;> omega
      · have := (I4 w k).2.1
        rw [a1]
        simp only [Prod.mk.injEq]
        split
        · split
          · split <;> omega
          · omega
        · split
          · omega
          · split
            · omega
            · split
              · omega
              · split <;> omega
      · rw [ao 20 w k 6 (by decide) (by decide) (by simp) (by simp)]
        exact (I4 w k).2.2
    · refine xInv_new (X := xV W2 0) (by show W2.1 (0, 0, 0) 3 ≤ 7; rw [a3]; exact K7) (by show W2.1 (0, 0, 0) 4 = yVot (W2.1 (0, 0, 0) 3) (xV W2 0 10); rw [a3, a4, vot]) (fun q => ?_) (fun v hv => ?_) a20 a44
      · have q : W2.1 (0, 0, 0) 4 = 0 := q
        rw [a4] at q
        exact absurd q kv
      · have hv : v < W2.1 (0, 0, 0) 3 := hv
        rw [a3] at hv
        refine ⟨?_, (a10 v hv).2⟩
        show W2.1 (10, 0, v) 0 ≤ 1
        rw [(a10 v hv).1]
        split <;> omega
    · rw [a3]; exact K7
    · rw [a3, a4]; exact cle
    · rw [a4]; exact fun q => absurd q kv
    · rw [tz (106, 0, 0) (by decide) (by decide) (by decide), a3]; exact s106
    · rw [tz (107, 0, 0) (by decide) (by decide) (by decide)]; exact s107
    · intro k hk
      rw [a3] at hk
      rw [(a10 k hk).1, sb k hk]
      cases sl k <;> simp
    · rw [a3, a4]; exact kb
    · refine mW_new b2 (by rw [a3]; exact K7) (fun k hk => ?_) a20 a44
      rw [a3] at hk
      refine ⟨(a10 k hk).2, fun q hq => ⟨?_, ?_⟩⟩
      · rw [h3 _ (by simp), g3, if_pos ⟨Or.inl rfl, rfl, hk, hq⟩]
      · rw [h3 _ (by simp), g3, if_pos ⟨Or.inr rfl, rfl, hk, hq⟩]
    · unfold zT_r at nTR ⊢
      rw [fr3 (31, 0, 0) (by decide), fr3 (32, 0, 0) (by decide), t0 5 (by decide), t0 7 (by decide), t0 8 (by decide), tz (101, 0, 0) (by decide) (by decide) (by decide)]
      exact nTR
    · unfold zH_r at H ⊢
      rw [fr (40, 0, 0) (by decide) (by decide), fr (41, 0, 0) (by decide) (by decide), fr (42, 0, 0) (by decide) (by decide), fr (43, 0, 0) (by decide) (by decide), fr (44, 0, 0) (by decide) (by decide), fr (45, 0, 0) (by decide) (by decide), t0 26 (by decide), f26, tz (110, 0, 0) (by decide) (by decide) (by decide), tz (111, 0, 0) (by decide) (by decide) (by decide), tz (112, 0, 0) (by decide) (by decide) (by decide), tz (113, 0, 0) (by decide) (by decide) (by decide), tz (114, 0, 0) (by decide) (by decide) (by decide), f1 (110, 0, 0) (by decide) (by decide) (by decide) (by decide), f1 (111, 0, 0) (by decide) (by decide) (by decide) (by decide), f1 (112, 0, 0) (by decide) (by decide) (by decide) (by decide), f1 (113, 0, 0) (by decide) (by decide) (by decide) (by decide), f1 (114, 0, 0) (by decide) (by decide) (by decide) (by decide)]
      exact H
    · unfold yhJ yhD at J ⊢
      rw [yhHs_c (fun z z1 z2 => fr z (by omega) (fun q => by rw [q] at z1; simp at z1)), fr (40, 0, 0) (by decide) (by decide), fr (46, 0, 0) (by decide) (by decide)]
      exact J
    · have e37 : (cE W2).1 (37, 0, 0) b' = 0 := by
        rw [cE_0 (z := (37, 0, 0)) rfl]
        exact h4 b' (by omega) hb'
      exact ⟨by rw [b3 b' hb', e37], Or.inl e37⟩
  · refine ⟨-1, σ1, τ1, ?_, ?_, yR_io0 R (fun z hz => sz z (hz.elim (fun q => Or.inl (by omega)) (fun q => by rw [q]; exact Or.inr (by decide)))) (fun z z1 z2 => f1 z (fun q => by rw [q] at z1; simp at z1) (fun q => by rw [q] at z1; simp at z1) (fun q => by rw [q] at z2; simp at z2) (fun q => by rw [q] at z2; simp at z2)) ?_ nTR ?_ ?_⟩
    · unfold fX_keepers
      rw [p1, z_bde, c6, if_neg (nI_ne0 (by omega) (by omega))]
    · rw [q1]
      unfold fM_keepers_151 fM_isGood
      rw [d7, if_neg (nI_ne0 (by omega) (by omega)), z_bde, if_pos rfl]
    · refine ⟨m.1.1, bk, s0, hbk, hs0, f12, ?_, ?_, mbits, msum⟩
      · rw [(dF.2.1 bk (by omega)).1, (q4 bk (by omega)).1]; exact m106
      · rw [(dF.2.1 bk (by omega)).2, (q4 bk (by omega)).2]; exact m107
    · unfold zH_r at H ⊢
      rw [sz (40, 0, 0) (by decide), sz (41, 0, 0) (by decide), sz (42, 0, 0) (by decide), sz (43, 0, 0) (by decide), sz (44, 0, 0) (by decide), sz (45, 0, 0) (by decide), f26, f1 (110, 0, 0) (by decide) (by decide) (by decide) (by decide), f1 (111, 0, 0) (by decide) (by decide) (by decide) (by decide), f1 (112, 0, 0) (by decide) (by decide) (by decide) (by decide), f1 (113, 0, 0) (by decide) (by decide) (by decide) (by decide), f1 (114, 0, 0) (by decide) (by decide) (by decide) (by decide)]
      exact H
    · unfold yhJ yhD at J ⊢
      rw [yhHs_c (fun z z1 z2 => sz z (Or.inr (by omega))), sz (40, 0, 0) (by decide), sz (46, 0, 0) (by decide)]
      exact J
theorem ye_2 {t i : Nat} (h : ye t i = 2) : (t = 10 ∧ i = 3) ∨ (t = 20 ∧ i = 0) := by
  unfold ye at h
  grind
theorem ye_le (t i : Nat) : ye t i ≤ 2 := by
  unfold ye
  grind
/-- the start -/
theorem st_0 {τ : zS} (hbeg : fM_begin z_sM = some ((), τ)) : yREL (fun _ => false) z_sX τ 0 := by
  obtain ⟨τ2, b1, b2, b3, b4⟩ := eM_begin z_sM
  rw [b1] at hbeg
  injection hbeg with hbeg
  injection hbeg with x1 x2
  subst x2
  obtain ⟨W, eW⟩ : ∃ W : yW, W = (fun z i => if z.1 = 10 ∧ i = 3 then 1 else 0, z_sX) := ⟨_, rfl⟩
  have w1 : ∀ z i, W.1 z i = if z.1 = 10 ∧ i = 3 then 1 else 0 := fun z i => by rw [eW]
  have w0 : ∀ t w k i, ¬ (t = 10 ∧ i = 3) → W.1 (t, w, k) i = 0 := fun t w k i h => by rw [w1, if_neg h]
  have e0 : z_sX = cE W := by
    rw [eW]
    refine yS_ext (fun z i => ?_) rfl
    show z_sX.1 z i = yc (ye z.1 i) (if z.1 = 10 ∧ i = 3 then 1 else 0) (z_sX.1 z i)
    by_cases y0 : ye z.1 i = 0
    · rw [y0]; rfl
    · have e : z_sX.1 z i = if z.1 = 20 ∧ i = 0 then -1 else 0 := by
        have n31 : z.1 ≠ 31 := fun q => y0 (by rw [q]; rfl)
        show (if z.1 = 20 then (fun k => if k = 0 then (-1 : Int32) else 0) else if z.1 = 31 then (fun k => if k = 7 then (-1 : Int32) else 0) else (fun _ => 0)) i = _
        by_cases c : z.1 = 20
        · rw [if_pos c]
          show (if i = 0 then (-1 : Int32) else 0) = _
          by_cases c2 : i = 0
          · rw [if_pos c2, if_pos ⟨c, c2⟩]
          · rw [if_neg c2, if_neg (fun q => c2 q.2)]
        · rw [if_neg c, if_neg n31, if_neg (fun q => c q.1)]
      have yl := ye_le z.1 i
      rw [e]
      by_cases y2 : ye z.1 i = 2
      · rw [y2]
        rcases ye_2 y2 with ⟨q1, q2⟩ | ⟨q1, q2⟩
        · rw [if_neg (fun q => by omega), if_pos ⟨q1, q2⟩]; decide +kernel
        · rw [if_pos ⟨q1, q2⟩, if_neg (fun q => by omega)]; decide +kernel
      · have y1 : ye z.1 i = 1 := by omega
        rw [y1, if_neg (fun q => y2 (by rw [q.1, q.2]; rfl)), if_neg (fun q => y2 (by rw [q.1, q.2]; rfl))]
        decide +kernel
  have tz : ∀ z : zJ, z ≠ (103, 0, 0) → z ≠ (105, 0, 0) → τ2.1 z = z_sM.1 z := b4.1
  rw [e0]
  refine ⟨W, rfl, ⟨fun z i => ?_, fun w k i => ?_, fun w => ?_, fun w k => ?_, ?_⟩, ⟨⟨⟨?_, ?_, ?_⟩, 0, 0, by decide, by decide, ?_, ?_, ?_, ?_, ?_⟩, ?_, fun _ _ => rfl, rfl⟩, ⟨?_, ?_, ?_⟩, fun b' hb' => ?_⟩
  · rw [w1]; split <;> omega
  · rw [w0 11 w k i (by simp), w0 21 w k i (by simp)]
    exact ⟨fun _ => ⟨by decide, by decide⟩, fun _ => ⟨by decide, by decide⟩⟩
  · refine ⟨by rw [w0 0 w 0 3 (by decide)]; decide, fun k => by rw [w0 10 w k 7 (by decide)]; omega, fun s _ => by rw [w0 20 w s 6 (by decide)]; decide, by rw [w0 4 w 0 4 (by decide)]; decide⟩
  · rw [w0 10 w k 0 (by decide), w0 10 w k 1 (by decide), w0 20 w k 6 (by decide)]; decide
  · have e3 : xV W 0 0 0 3 = 0 := w0 0 0 0 3 (by decide)
    refine xInv_new (X := xV W 0) (by rw [e3]; decide) ?_ (fun _ => e3) (fun v hv => by omega) (fun s _ => w0 20 0 s 0 (by decide)) (w0 4 0 0 4 (by decide))
    rw [e3]
    exact w0 0 0 0 4 (by decide)
  · rw [w0 0 0 0 3 (by decide)]; decide
  · rw [w0 0 0 0 4 (by decide)]; exact Nat.zero_le _
  · exact fun _ => w0 0 0 0 3 (by decide)
  · rw [tz (100, 0, 0) (by decide) (by decide), nI_0]; decide +kernel
  · rw [tz (106, 0, 0) (by decide) (by decide), w0 0 0 0 3 (by decide), nI_0]; rfl
  · rw [tz (107, 0, 0) (by decide) (by decide), nI_0]; rfl
  · rw [w0 0 0 0 3 (by decide)]; intro k hk; omega
  · rw [w0 0 0 0 3 (by decide), w0 0 0 0 4 (by decide)]; decide +kernel
  · refine mW_new b2 (by rw [w0 0 0 0 3 (by decide)]; decide) (fun k hk => ?_) (fun s _ => w0 20 0 s 0 (by decide)) (w0 4 0 0 4 (by decide))
    rw [w0 0 0 0 3 (by decide)] at hk
    omega
  · rw [← e0]
    refine ⟨⟨0, by decide, by decide +kernel, ?_, fun j hj => by omega⟩, ?_, ?_⟩
    · rw [tz (100, 0, 0) (by decide) (by decide)]; decide +kernel
    · rw [tz (100, 0, 0) (by decide) (by decide)]; decide +kernel
    · rw [tz (100, 0, 0) (by decide) (by decide)]; decide +kernel
  · rw [← e0]
    refine ⟨0, by decide, by decide +kernel, ?_, fun j hj => by omega⟩
    rw [tz (100, 0, 0) (by decide) (by decide)]; decide +kernel
  · rw [← e0]
    exact Or.inl (by decide +kernel)
  · rw [← e0]
    have : z_sX.1 (37, 0, 0) b' = 0 := rfl
    exact ⟨by rw [b3 b' hb', this], Or.inl this⟩
