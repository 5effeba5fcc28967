/-! history: the first order; H f j: begun, ended, what, value, answer of command j -/
theorem yh_orN (a b : Nat) : nI a ||| nI b = nI (a ||| b) := by
  apply Int32.toBitVec_inj.1
  show BitVec.ofNat 32 a ||| BitVec.ofNat 32 b = BitVec.ofNat 32 (a ||| b)
  exact BitVec.ofNat_or.symm
theorem yh_shl : ∀ k, k < 10 → (1 : Int32) <<< (nI k &&& 31) = nI (2 ^ k) := by decide +kernel
theorem yh_or {c k : Nat} (hk : k < 10) : nI c ||| ((1 : Int32) <<< (nI k &&& 31)) = nI (c ||| 2 ^ k) := by
  rw [yh_shl k hk, yh_orN]
theorem yh_sm : ∀ k, k < 10 → ((nI k &&& 31).toBitVec.smod 32).toNat = k := by decide +kernel
theorem yh_bit {c k : Nat} (hc : c < 2147483648) (hk : k < 10) : ((nI c >>> (nI k &&& 31)) &&& 1) = if c.testBit k = true then 1 else 0 := by
  have h1 := Nat.div_le_self c (2 ^ k)
  rw [pk_shrN hc _ k (yh_sm k hk), pk_andN (n := c / 2 ^ k) (by omega) (m := 1) 1 (by decide +kernel), Nat.testBit_eq_decide_div_mod_eq, show (2 : Nat) ^ 1 = 2 from rfl]
  rcases Nat.mod_two_eq_zero_or_one (c / 2 ^ k) with e | e
  · rw [e]; decide +kernel
  · rw [e]; decide +kernel
theorem yh_set (c j i : Nat) : (c ||| 2 ^ j).testBit i = (c.testBit i || decide (i = j)) := by
  rw [Nat.testBit_or, Nat.testBit_two_pow]
  by_cases h : j = i
  · subst h; simp
  · have h2 : ¬ i = j := fun e => h e.symm
    simp [h, h2]
theorem yh_lt {c i : Nat} (hc : c < 512) (hi : i < 9) : c ||| 2 ^ i < 512 := Nat.or_lt_two_pow (n := 9) hc (Nat.pow_lt_pow_right (by decide) hi)
theorem yh_clr : ∀ c, c < 512 → ∀ i, i < 9 → c.testBit i = false → nI (c ||| 2 ^ i) &&& (((1 : Int32) <<< (nI i &&& 31)) ^^^ (-1)) = nI c := by decide +kernel
/-- how many came -/
def yhP (c : Nat) : Nat := z_cnt (fun j => c.testBit j) 9 0
theorem yhP_set {c i : Nat} (hi : i < 9) (h : c.testBit i = false) : yhP (c ||| 2 ^ i) = yhP c + 1 := z_cnt_one 9 0 (by omega) (by omega) h (by rw [yh_set]; simp) (fun j hj => by rw [yh_set]; simp [hj])
/-- one that can't be ahead of i -/
def yhX (H : Nat → Nat → Int32) (i c : Nat) : Nat → Bool := fun j => !(c.testBit j) && decide (H 1 j < H 0 i)
def yhN (n : Nat) (H : Nat → Nat → Int32) (i c : Nat) : Bool := !(c.testBit i) && (z_fst (yhX H i c) n 0).isNone
def yhC (n : Nat) (H : Nat → Nat → Int32) (i c : Nat) (x : Int32) : Bool := yhN n H i c && decide (mAn (H 2 i) x (H 3 i) = H 4 i)
def yhTr (f : Nat → Option (List Nat)) : Nat → Nat → Option (List Nat)
  | 0, _ => none
  | k + 1, i => match f i with
    | some l => some (i :: l)
    | none => yhTr f k (i + 1)
def yhGo (n : Nat) (H : Nat → Nat → Int32) : Nat → Nat → Int32 → Option (List Nat)
  | 0, _, _ => some []
  | m + 1, c, x => yhTr (fun i => if yhC n H i c x = true then yhGo n H m (c ||| 2 ^ i) (mAf (H 2 i) x (H 3 i)) else none) n 0
def yhF (n : Nat) (H : Nat → Nat → Int32) (m c : Nat) (x : Int32) (i : Nat) : Option (List Nat) := if yhC n H i c x = true then yhGo n H m (c ||| 2 ^ i) (mAf (H 2 i) x (H 3 i)) else none
theorem yhGo_s (n : Nat) (H : Nat → Nat → Int32) (m c : Nat) (x : Int32) : yhGo n H (m + 1) c x = yhTr (yhF n H m c x) n 0 := rfl
theorem yhTr_n {f : Nat → Option (List Nat)} {k i : Nat} (h : f i = none) : yhTr f (k + 1) i = yhTr f k (i + 1) := by
  rw [yhTr.eq_2, h]
theorem yhTr_s {f : Nat → Option (List Nat)} {k i : Nat} {l : List Nat} (h : f i = some l) : yhTr f (k + 1) i = some (i :: l) := by
  rw [yhTr.eq_2, h]
/-- what the cell is, by who wrote it -/
def yhW (H : Nat → Nat → Int32) (w : Nat) : Int32 := if w = 9 then 0 else if H 2 w = 0 ∨ H 2 w = 3 then H 3 w else H 4 w
theorem yhW_step {H : Nat → Nat → Int32} {i : Nat} {x : Int32} (hi : i < 9) (h : mAn (H 2 i) x (H 3 i) = H 4 i) : (H 2 i = 3 ∧ ¬ H 4 i = 1 → mAf (H 2 i) x (H 3 i) = x) ∧ (¬ (H 2 i = 3 ∧ ¬ H 4 i = 1) → mAf (H 2 i) x (H 3 i) = yhW H i) := by
  unfold yhW
  rw [if_neg (by omega)]
  unfold mAn at h
  constructor
  · rintro ⟨h1, h2⟩
    rw [h1, if_neg (by decide), if_pos rfl] at h
    rw [h1]
    by_cases c : x = 0
    · rw [if_pos c] at h; exact absurd h.symm h2
    · unfold mAf
      rw [if_neg (by decide), if_neg (by decide), if_neg (by decide), if_neg c]
  · intro h1
    by_cases c0 : H 2 i = 0
    · rw [if_pos (Or.inl c0), c0]; unfold mAf; rw [if_pos rfl]
    · rw [if_neg c0] at h
      by_cases c3 : H 2 i = 3
      · rw [if_pos (Or.inr c3)]
        rw [if_pos c3] at h
        have h4 : H 4 i = 1 := Classical.byContradiction fun q => h1 ⟨c3, q⟩
        rw [h4] at h
        by_cases c : x = 0
        · rw [c3]
          unfold mAf
          rw [if_neg (by decide), if_neg (by decide), if_neg (by decide), if_pos c]
        · rw [if_neg c] at h; exact absurd h (by decide)
      · rw [if_neg c3] at h
        rw [if_neg (fun q => q.elim c0 c3)]
        exact h
/-- the class's rows -/
def yhR (n : Nat) (H : Nat → Nat → Int32) (σ : zS) : Prop := n ≤ 9 ∧ σ.1 (40, 0, 0) 7 = nI n ∧ σ.1 (41, 0, 0) = H 0 ∧ σ.1 (42, 0, 0) = H 1 ∧ σ.1 (43, 0, 0) = H 2 ∧ σ.1 (44, 0, 0) = H 3 ∧ σ.1 (45, 0, 0) = H 4
def yhO (σ σ' : zS) : Prop := (∀ z : zJ, z ≠ (46, 0, 0) → z ≠ (47, 0, 0) → σ'.1 z = σ.1 z) ∧ σ'.2 = σ.2
theorem yhO_tr {a b c : zS} (h : yhO a b) (h' : yhO b c) : yhO a c := ⟨fun z z1 z2 => (h'.1 z z1 z2).trans (h.1 z z1 z2), h'.2.trans h.2⟩
theorem yhR_o {n : Nat} {H : Nat → Nat → Int32} {σ σ' : zS} (h : yhR n H σ) (o : yhO σ σ') : yhR n H σ' := by
  unfold yhR
  rw [o.1 (40, 0, 0) (by decide) (by decide), o.1 (41, 0, 0) (by decide) (by decide), o.1 (42, 0, 0) (by decide) (by decide), o.1 (43, 0, 0) (by decide) (by decide), o.1 (44, 0, 0) (by decide) (by decide), o.1 (45, 0, 0) (by decide) (by decide)]
  exact h
/-- what is kept of hopeless ways -/
def yhM (n : Nat) (H : Nat → Nat → Int32) (σ : zS) : Prop := ∀ c, c < 512 → ∃ h, h < 1024 ∧ σ.1 (47, 0, 0) c = nI h ∧ ∀ w, w ≤ 9 → h.testBit w = true → ∀ m, yhP c + m = n → yhGo n H m c (yhW H w) = none
def yhS (d m : Nat) (o : Option (List Nat)) (r : Int32) (σ σ' : zS) : Prop := (∀ j, j < d → σ'.1 (46, 0, 0) j = σ.1 (46, 0, 0) j) ∧ (o = none → r = 0) ∧ ∀ l, o = some l → r = 1 ∧ ∀ j, j < m → σ'.1 (46, 0, 0) (d + j) = nI (l.getD j 0)
section yhist
variable {n : Nat} {H : Nat → Nat → Int32}
theorem yh_next_12 {i c : Nat} {σ : zS} (h : yhR n H σ) (hi : i < n) (hc : c < 512) : ∀ m j F, j + m = n → m < F → fH_canBeNext_12 F (nI i) (nI c) (nI j) σ = some (if (z_fst (yhX H i c) m j).isNone = true then 1 else 0, σ) := by
  obtain ⟨h9, h7, h0, h1, -⟩ := h
  intro m
  induction m with
  | zero =>
    intro j F hj hF
    obtain ⟨F, rfl⟩ : ∃ k, F = k + 1 := ⟨F - 1, by omega⟩
    rw [fH_canBeNext_12.eq_2, h7, if_pos ((nI_leI (by omega) (by omega)).mpr (by omega))]
    rfl
  | succ m ih =>
    intro j F hj hF
    obtain ⟨F, rfl⟩ : ∃ k, F = k + 1 := ⟨F - 1, by omega⟩
    rw [fH_canBeNext_12.eq_2, h7, if_neg (fun q => by have := (nI_leI (by omega) (by omega)).mp q; omega), yh_bit (by omega) (by omega)]
    have hs : z_fst (yhX H i c) (m + 1) j = if yhX H i c j = true then some j else z_fst (yhX H i c) m (j + 1) := rfl
    rw [hs]
    have goon : z_let (nI j + 1) (fun y => fH_canBeNext_12 F (nI i) (nI c) y σ) = fH_canBeNext_12 F (nI i) (nI c) (nI (j + 1)) σ := by
      show fH_canBeNext_12 F (nI i) (nI c) (nI j + 1) σ = _
      rw [nI_1]
    by_cases b : c.testBit j = true
    · have hx : yhX H i c j = false := by unfold yhX; rw [b]; rfl
      rw [if_pos b, if_neg (by decide), hx, if_neg (show ¬ false = true by decide), goon]
      exact ih (j + 1) F (by omega) (by omega)
    · have b' : c.testBit j = false := by simpa using b
      rw [if_neg b, if_pos rfl, if_pos (nI_inz (by omega) (by decide)), if_pos (nI_inz (by omega) (by decide)), nI_clamp (by omega), nI_clamp (by omega), h0, h1]
      by_cases q : H 0 i ≤ H 1 j
      · have hx : yhX H i c j = false := by unfold yhX; rw [b', decide_eq_false (i32_nlt.mpr q)]; rfl
        rw [if_pos q, hx, if_neg (show ¬ false = true by decide), goon]
        exact ih (j + 1) F (by omega) (by omega)
      · have hx : yhX H i c j = true := by unfold yhX; rw [b', decide_eq_true (Classical.byContradiction fun q' => q (i32_nlt.mp q'))]; rfl
        rw [if_neg q, hx, if_pos rfl]
        rfl
theorem yh_next {i c : Nat} {σ : zS} (h : yhR n H σ) (hi : i < n) (hc : c < 512) : fH_canBeNext (nI i) (nI c) σ = some (if yhN n H i c = true then 1 else 0, σ) := by
  have h9 := h.1
  unfold fH_canBeNext yhN
  rw [yh_bit (by omega) (by omega)]
  by_cases b : c.testBit i = true
  · rw [if_pos b, if_neg (by decide), b]; rfl
  · have b' : c.testBit i = false := by simpa using b
    have q := yh_next_12 h hi hc n 0 z_fu (by omega) (z_fu_big (by omega))
    rw [nI_0] at q
    rw [if_neg b, if_pos rfl, b', q]
    rfl
/-- the call one deeper -/
def yhRc (n : Nat) (H : Nat → Nat → Int32) (rc : Int32 → Int32 → Int32 → Int32 → zS → Option (Int32 × zS)) (d m : Nat) : Prop := ∀ (c w : Nat) (σ : zS), c < 512 → w ≤ 9 → yhP c = d → yhR n H σ → yhM n H σ → ∃ r σ', rc (nI d) (nI c) (yhW H w) (nI w) σ = some (r, σ') ∧ yhO σ σ' ∧ yhM n H σ' ∧ yhS d m (yhGo n H m c (yhW H w)) r σ σ'
theorem yh_first {d i : Nat} {σ : zS} (hm : yhM n H σ) : yhM n H (z_up σ (46, 0, 0) d (nI i)) ∧ yhO σ (z_up σ (46, 0, 0) d (nI i)) := by
  refine ⟨fun c hc => ?_, fun z z1 _ => z_up_n _ _ _ z1, rfl⟩
  rw [z_up_n _ _ _ (by decide)]
  exact hm c hc
set_option maxHeartbeats 1000000 in
theorem yh_loop {rc : Int32 → Int32 → Int32 → Int32 → zS → Option (Int32 × zS)} {d m c w : Nat} (hrc : yhRc n H rc (d + 1) m) (hd : d + (m + 1) = n) (hc : c < 512) (hw : w ≤ 9) (hp : yhP c = d) : ∀ (k i F : Nat) (σ : zS), i + k = n → k < F → yhR n H σ → yhM n H σ → yhGo n H (m + 1) c (yhW H w) = yhTr (yhF n H m c (yhW H w)) k i → ∃ r σ', fH_canGoOn_35 rc F (nI d) (nI c) (yhW H w) (nI w) (nI i) σ = some (r, σ') ∧ yhO σ σ' ∧ yhM n H σ' ∧ yhS d (m + 1) (yhTr (yhF n H m c (yhW H w)) k i) r σ σ' := by
  intro k
  induction k with
  | zero =>
    intro i F σ hi hF hR hM hg
    obtain ⟨F, rfl⟩ : ∃ k, F = k + 1 := ⟨F - 1, by omega⟩
    have h9 := hR.1
    obtain ⟨h, hh, eh, ah⟩ := hM c hc
    rw [fH_canGoOn_35.eq_2, hR.2.1, if_pos ((nI_leI (by omega) (by omega)).mpr (by omega)), if_pos (nI_inz (by omega) (by decide)), if_pos (nI_inz (by omega) (by decide)), nI_clamp (by omega), eh, yh_or (by omega)]
    refine ⟨0, z_up σ (47, 0, 0) c (nI (h ||| 2 ^ w)), rfl, ⟨fun z _ z2 => z_up_n _ _ _ z2, rfl⟩, fun c' hc' => ?_, fun j _ => by rw [z_up_n _ _ _ (by decide)], fun _ => rfl, fun l e => ?_⟩
    · by_cases e : c' = c
      · subst e
        refine ⟨h ||| 2 ^ w, Nat.or_lt_two_pow (n := 10) hh (Nat.pow_lt_pow_right (by decide) (by omega)), by rw [z_up_s, upd_s], fun w' hw' t m' hm' => ?_⟩
        rw [yh_set] at t
        by_cases e2 : w' = w
        · subst e2
          have : m' = m + 1 := by omega
          subst this
          rw [hg]; rfl
        · exact ah w' hw' (by simpa [e2] using t) m' hm'
      · obtain ⟨h2, hh2, eh2, ah2⟩ := hM c' hc'
        exact ⟨h2, hh2, by rw [z_up_s, upd_n _ _ e]; exact eh2, ah2⟩
    · cases e
  | succ k ih =>
    intro i F σ hi hF hR hM hg
    obtain ⟨F, rfl⟩ : ∃ k, F = k + 1 := ⟨F - 1, by omega⟩
    obtain ⟨h9, h7, h0, h1, h2, h3, h4⟩ := id hR
    have gi : z_in (nI i) 9 = true := nI_inz (by omega) (by decide)
    have ki : (nI i).toNatClampNeg = i := nI_clamp (by omega)
    have goon : ∀ ρ, z_let (nI i + 1) (fun y => fH_canGoOn_35 rc F (nI d) (nI c) (yhW H w) (nI w) y ρ) = fH_canGoOn_35 rc F (nI d) (nI c) (yhW H w) (nI w) (nI (i + 1)) ρ := fun ρ => by
      show fH_canGoOn_35 rc F (nI d) (nI c) (yhW H w) (nI w) (nI i + 1) ρ = _
      rw [nI_1]
    rw [fH_canGoOn_35.eq_2, h7, if_neg (fun q => by have := (nI_leI (by omega) (by omega)).mp q; omega), if_pos gi, if_pos gi, ki, h2, h3, eX_cellBehind, z_bde, yh_next hR (by omega) hc, z_bde]
    by_cases cn : yhN n H i c = true
    · rw [if_pos cn, if_neg (by decide), if_pos gi, h2, eX_answerTo, z_bde, if_pos gi, h4]
      by_cases ca : mAn (H 2 i) (yhW H w) (H 3 i) = H 4 i
      · have hC : yhC n H i c (yhW H w) = true := by unfold yhC; rw [cn, decide_eq_true ca]; rfl
        have hb : c.testBit i = false := by
          unfold yhN at cn
          rw [Bool.and_eq_true] at cn
          simpa using cn.1
        obtain ⟨hM1, hO1⟩ := yh_first (d := d) (i := i) hM
        have hR1 := yhR_o hR hO1
        have key : ∀ w', w' ≤ 9 → mAf (H 2 i) (yhW H w) (H 3 i) = yhW H w' → ∃ r σ', fH_canGoOn_158 rc (fH_canGoOn_35 rc F) (nI d) (nI c) (yhW H w) (nI w) (nI i) (nI d + 1) (nI c ||| ((1 : Int32) <<< (nI i &&& 31))) (mAf (H 2 i) (yhW H w) (H 3 i)) (nI w') (z_up σ (46, 0, 0) d (nI i)) = some (r, σ') ∧ yhO σ σ' ∧ yhM n H σ' ∧ yhS d (m + 1) (yhTr (yhF n H m c (yhW H w)) (k + 1) i) r σ σ' := by
          intro w' hw' ew
          obtain ⟨r, σ', e1, e2, e3, e4, e5, e6⟩ := hrc (c ||| 2 ^ i) w' _ (yh_lt hc (by omega)) hw' (by rw [yhP_set (by omega) hb, hp]) hR1 hM1
          have hf : yhF n H m c (yhW H w) i = yhGo n H m (c ||| 2 ^ i) (yhW H w') := by unfold yhF; rw [if_pos hC, ew]
          have e0 : σ'.1 (46, 0, 0) d = nI i := by rw [e4 d (by omega), z_up_s, upd_s]
          have el : ∀ j, j < d → σ'.1 (46, 0, 0) j = σ.1 (46, 0, 0) j := fun j hj => by rw [e4 j (by omega), z_up_s, upd_n _ _ (by omega)]
          unfold fH_canGoOn_158
          rw [nI_1, yh_or (by omega), ew, e1, z_bde]
          cases eg : yhGo n H m (c ||| 2 ^ i) (yhW H w') with
          | none =>
            rw [e5 eg, if_pos rfl, goon]
            rw [eg] at hf
            obtain ⟨r2, ρ, f1, f2, f3, f4, f5, f6⟩ := ih (i + 1) F σ' (by omega) (by omega) (yhR_o hR1 e2) e3 (by rw [hg, yhTr_n hf])
            refine ⟨r2, ρ, f1, yhO_tr (yhO_tr hO1 e2) f2, f3, ?_⟩
            rw [yhTr_n hf]
            exact ⟨fun j hj => by rw [f4 j hj, el j hj], f5, f6⟩
          | some l =>
            obtain ⟨g1, g2⟩ := e6 l eg
            rw [g1, if_neg (by decide)]
            rw [eg] at hf
            refine ⟨1, σ', rfl, yhO_tr hO1 e2, e3, el, ?_, ?_⟩
            · rw [yhTr_s hf]; exact fun q => by cases q
            · rw [yhTr_s hf]
              intro l' q
              cases q
              refine ⟨rfl, fun j hj => ?_⟩
              cases j with
              | zero => exact e0
              | succ j =>
                rw [show d + (j + 1) = d + 1 + j by omega, g2 j (by omega)]
                rfl
        have st := yhW_step (x := yhW H w) (show i < 9 by omega) ca
        have k119 : ¬ (H 2 i = 3 ∧ ¬ H 4 i = 1) → ∃ r σ', fH_canGoOn_119 rc (fH_canGoOn_35 rc F) (nI d) (nI c) (yhW H w) (nI w) (nI i) (mAf (H 2 i) (yhW H w) (H 3 i)) σ = some (r, σ') ∧ yhO σ σ' ∧ yhM n H σ' ∧ yhS d (m + 1) (yhTr (yhF n H m c (yhW H w)) (k + 1) i) r σ σ' := by
          intro q
          unfold fH_canGoOn_119 fH_canGoOn_124
          rw [if_pos (nI_inz (by omega) (by decide)), nI_clamp (by omega)]
          exact key i (by omega) (st.2 q)
        rw [if_pos ca, if_pos gi, h2]
        by_cases c3 : H 2 i = 3
        · rw [if_pos c3, if_pos gi]
          by_cases c1 : H 4 i = 1
          · rw [if_pos c1]
            exact k119 (fun q => q.2 c1)
          · rw [if_neg c1]
            unfold fH_canGoOn_124
            rw [if_pos (nI_inz (by omega) (by decide)), nI_clamp (by omega)]
            exact key w hw (st.1 ⟨c3, c1⟩)
        · rw [if_neg c3]
          exact k119 (fun q => c3 q.1)
      · have hf : yhF n H m c (yhW H w) i = none := by unfold yhF yhC; rw [decide_eq_false ca, Bool.and_false]; rfl
        rw [if_neg ca, goon, yhTr_n hf]
        exact ih (i + 1) F σ (by omega) (by omega) hR hM (by rw [hg, yhTr_n hf])
    · have hf : yhF n H m c (yhW H w) i = none := by
        unfold yhF yhC
        rw [show yhN n H i c = false by simpa using cn]
        rfl
      rw [if_neg cn, if_pos rfl, goon, yhTr_n hf]
      exact ih (i + 1) F σ (by omega) (by omega) hR hM (by rw [hg, yhTr_n hf])
theorem yh_go : ∀ (m d D : Nat), d + m = n → m < D → yhRc n H (fH_canGoOn D) d m := by
  intro m
  induction m with
  | zero =>
    intro d D hd hD c w σ hc hw hp hR hM
    obtain ⟨D, rfl⟩ : ∃ k, D = k + 1 := ⟨D - 1, by omega⟩
    have h9 := hR.1
    rw [fH_canGoOn.eq_2]
    unfold fH_canGoOnB
    rw [hR.2.1, if_pos ((nI_leI (by omega) (by omega)).mpr (by omega))]
    exact ⟨1, σ, rfl, ⟨fun _ _ _ => rfl, rfl⟩, hM, fun _ _ => rfl, (fun q => by cases q), fun l q => ⟨rfl, fun j hj => by omega⟩⟩
  | succ m ih =>
    intro d D hd hD c w σ hc hw hp hR hM
    obtain ⟨D, rfl⟩ : ∃ k, D = k + 1 := ⟨D - 1, by omega⟩
    have h9 := hR.1
    obtain ⟨h, hh, eh, ah⟩ := hM c hc
    rw [fH_canGoOn.eq_2]
    unfold fH_canGoOnB
    rw [hR.2.1, if_neg (fun q => by have := (nI_leI (by omega) (by omega)).mp q; omega), if_pos (by rw [show (9 : Int32) = nI 9 from by decide +kernel]; exact nI_lt (by omega) (by decide)), if_pos (nI_inz (by omega) (by decide)), nI_clamp (by omega), eh, yh_bit (by omega) (by omega)]
    by_cases b : h.testBit w = true
    · rw [if_pos b, if_neg (by decide), ah w hw b (m + 1) (by omega)]
      exact ⟨0, σ, rfl, ⟨fun _ _ _ => rfl, rfl⟩, hM, fun _ _ => rfl, fun _ => rfl, fun l q => by cases q⟩
    · rw [if_neg b, if_pos rfl, yhGo_s]
      have := yh_loop (ih (d + 1) D (by omega) (by omega)) hd hc hw hp n 0 z_fu σ (by omega) (z_fu_big (by omega)) hR hM (yhGo_s _ _ _ _ _)
      rw [nI_0] at this
      exact this
/-- what is judged -/
def yhD (n : Nat) (H : Nat → Nat → Int32) (σ : zS) : Prop := (yhGo n H n 0 0 = none → σ.1 (40, 0, 0) 9 = 0) ∧ ∀ l, yhGo n H n 0 0 = some l → σ.1 (40, 0, 0) 9 = 1 ∧ ∀ j, j < n → σ.1 (46, 0, 0) j = nI (l.getD j 0)
theorem yhP_0 : yhP 0 = 0 := by decide +kernel
theorem yh_right_9 : ∀ (m i F : Nat) (σ : zS), i + m = 512 → m < F → yhR n H σ → (∀ c, c < i → σ.1 (47, 0, 0) c = 0) → ∃ σ', fH_isRight_9 F (nI i) σ = some (if (yhGo n H n 0 0).isSome = true then 1 else 0, σ') ∧ yhR n H σ' ∧ yhD n H σ' ∧ (∀ z : zJ, z ≠ (40, 0, 0) → z ≠ (46, 0, 0) → z ≠ (47, 0, 0) → σ'.1 z = σ.1 z) ∧ σ'.2 = σ.2 := by
  intro m
  induction m with
  | zero =>
    intro i F σ hi hF hR h0
    obtain ⟨F, rfl⟩ : ∃ k, F = k + 1 := ⟨F - 1, by omega⟩
    have hM : yhM n H σ := fun c hc => ⟨0, by decide, by rw [h0 c (by omega), nI_0], fun w _ t => by rw [Nat.zero_testBit] at t; cases t⟩
    obtain ⟨r, ρ, e1, e2, -, -, e5, e6⟩ := yh_go (H := H) n 0 10 (by omega) (by have := hR.1; omega) 0 9 σ (by decide) (by decide) yhP_0 hR hM
    have w9 : yhW H 9 = 0 := if_pos rfl
    rw [w9] at e1 e5 e6
    rw [nI_0, show nI 9 = 9 from by decide +kernel] at e1
    rw [fH_isRight_9.eq_2, if_pos ((nI_le_lit (a := 512) (by decide +kernel) (by decide) (by omega)).mpr (by omega)), e1, z_bde]
    have hr : r = if (yhGo n H n 0 0).isSome = true then 1 else 0 := by
      cases eg : yhGo n H n 0 0 with
      | none => exact e5 eg
      | some l => exact (e6 l eg).1
    have hb : z_b01 r = true := by
      rw [hr]
      by_cases q : (yhGo n H n 0 0).isSome = true
      · rw [if_pos q]; decide +kernel
      · rw [if_neg q]; decide +kernel
    have hR2 := yhR_o hR e2
    have k9 : (z_up (z_up ρ (40, 0, 0) 9 r) (40, 0, 0) 8 1).1 (40, 0, 0) 9 = r := by rw [z_up_s, upd_n _ _ (by decide), z_up_s, upd_s]
    have k46 : (z_up (z_up ρ (40, 0, 0) 9 r) (40, 0, 0) 8 1).1 (46, 0, 0) = ρ.1 (46, 0, 0) := by rw [z_up_n _ _ _ (by decide), z_up_n _ _ _ (by decide)]
    refine ⟨z_up (z_up ρ (40, 0, 0) 9 r) (40, 0, 0) 8 1, ?_, ?_, ⟨fun q => ?_, fun l q => ?_⟩, fun z z0 z1 z2 => ?_, e2.2⟩
    · show (if z_b01 r = true then (if z_b01 ((z_up (z_up ρ (40, 0, 0) 9 r) (40, 0, 0) 8 1).1 (40, 0, 0) 9) = true then some ((z_up (z_up ρ (40, 0, 0) 9 r) (40, 0, 0) 8 1).1 (40, 0, 0) 9, z_up (z_up ρ (40, 0, 0) 9 r) (40, 0, 0) 8 1) else none) else none) = _
      rw [if_pos hb, k9, if_pos hb, hr]
    · obtain ⟨a0, a7, a1, a2, a3, a4, a5⟩ := hR2
      refine ⟨a0, ?_, ?_, ?_, ?_, ?_, ?_⟩
      · rw [z_up_s, upd_n _ _ (by decide), z_up_s, upd_n _ _ (by decide)]; exact a7
      · rw [z_up_n _ _ _ (by decide), z_up_n _ _ _ (by decide)]; exact a1
      · rw [z_up_n _ _ _ (by decide), z_up_n _ _ _ (by decide)]; exact a2
      · rw [z_up_n _ _ _ (by decide), z_up_n _ _ _ (by decide)]; exact a3
      · rw [z_up_n _ _ _ (by decide), z_up_n _ _ _ (by decide)]; exact a4
      · rw [z_up_n _ _ _ (by decide), z_up_n _ _ _ (by decide)]; exact a5
    · rw [k9]; exact e5 q
    · rw [k9, k46]
      refine ⟨(e6 l q).1, fun j hj => ?_⟩
      have := (e6 l q).2 j hj
      rw [Nat.zero_add] at this
      exact this
    · rw [z_up_n _ _ _ z0, z_up_n _ _ _ z0]
      exact e2.1 z z1 z2
  | succ m ih =>
    intro i F σ hi hF hR h0
    obtain ⟨F, rfl⟩ : ∃ k, F = k + 1 := ⟨F - 1, by omega⟩
    rw [fH_isRight_9.eq_2, if_neg (fun hh => by have := (nI_le_lit (a := 512) (by decide +kernel) (by decide) (by omega)).mp hh; omega), if_pos (nI_inz (by omega) (by decide)), nI_clamp (by omega)]
    obtain ⟨σ', e1, e2, e3, e4, e5⟩ := ih (i + 1) F (z_up σ (47, 0, 0) i 0) (by omega) (by omega) (yhR_o hR ⟨fun z _ z2 => z_up_n _ _ _ z2, rfl⟩) (fun c hc => by
      rw [z_up_s]
      by_cases e : c = i
      · rw [e, upd_s]
      · rw [upd_n _ _ e]; exact h0 c (by omega))
    refine ⟨σ', ?_, e2, e3, fun z z0 z1 z2 => by rw [e4 z z0 z1 z2, z_up_n _ _ _ z2], e5⟩
    show fH_isRight_9 F (nI i + 1) (z_up σ (47, 0, 0) i 0) = _
    rw [nI_1]
    exact e1
theorem yh_right {σ : zS} (hR : yhR n H σ) (hj : σ.1 (40, 0, 0) 8 = 0 ∨ yhD n H σ) : ∃ σ', fH_isRight σ = some (if (yhGo n H n 0 0).isSome = true then 1 else 0, σ') ∧ yhR n H σ' ∧ yhD n H σ' ∧ (∀ z : zJ, z ≠ (40, 0, 0) → z ≠ (46, 0, 0) → z ≠ (47, 0, 0) → σ'.1 z = σ.1 z) ∧ σ'.2 = σ.2 := by
  unfold fH_isRight
  by_cases c : σ.1 (40, 0, 0) 8 = 0
  · rw [if_pos c]
    have := yh_right_9 512 0 z_fu σ (by omega) (z_fu_big (by decide)) hR (fun c hc => by omega)
    rw [nI_0] at this
    exact this
  · rw [if_neg c]
    have hd := hj.resolve_left c
    have hr : σ.1 (40, 0, 0) 9 = if (yhGo n H n 0 0).isSome = true then 1 else 0 := by
      cases eg : yhGo n H n 0 0 with
      | none => exact hd.1 eg
      | some l => exact (hd.2 l eg).1
    have hb : z_b01 (σ.1 (40, 0, 0) 9) = true := by
      rw [hr]
      by_cases q : (yhGo n H n 0 0).isSome = true
      · rw [if_pos q]; decide +kernel
      · rw [if_neg q]; decide +kernel
    rw [if_pos hb, hr]
    exact ⟨σ, rfl, hR, hd, fun _ _ _ _ => rfl, rfl⟩
end yhist
