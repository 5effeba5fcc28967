/-! what each act leaves: bounds, entries' cells, sizes; and all that is not the living world -/
def yKp (b : Nat) (W0 W : yW) : Prop := (∀ z i, W.1 z i < b) ∧ yEn W ∧ yA W 0 ∧ ((∀ z : zJ, (z.2.1 ≠ 0 ∨ 24 ≤ z.1) → W.1 z = W0.1 z ∧ W.2.1 z = W0.2.1 z) ∧ W.2.2 = W0.2.2 ∧ W.1 (0, 0, 0) = W0.1 (0, 0, 0) ∧ ∀ k, W.1 (10, 0, k) 0 = W0.1 (10, 0, k) 0 ∧ W.1 (10, 0, k) 1 ≤ 1 ∧ W.1 (20, 0, k) 6 ≤ 5)
/-- a number that may be written -/
def yKpt (b : Nat) (W : yW) (z : zJ) (i v : Nat) : Prop := v < b ∧ (z.2.1 = 0 ∧ z.1 < 24 ∧ z.1 ≠ 0) ∧ (z.1 = 10 → i ≠ 0 ∧ (i = 1 → v ≤ 1) ∧ (i = 5 → W.1 z 7 ≤ v + 40) ∧ (i = 7 → v ≤ W.1 z 5 + 40)) ∧ (z.1 = 20 → (i = 0 → v ≠ 3) ∧ (i = 6 → v ≤ 5)) ∧ (z.1 = 4 → i = 4 → v ≤ 40) ∧ (z.1 = 11 ∨ z.1 = 21 → (i % 6 = 1 → v < 6) ∧ (i % 6 = 4 → v < 8))
section ykeep
variable {b : Nat} {W0 W : yW} {k : Nat}
theorem yKp_mono {b' : Nat} (h : b ≤ b') (q : yKp b W0 W) : yKp b' W0 W := ⟨fun z i => by have := q.1 z i; omega, q.2⟩
theorem yKp_I {z : zJ} {i v : Nat} (q : yKp b W0 W) (p : yKpt b W z i v) : yKp b W0 (yI W z i v) := by
  obtain ⟨q1, q2, q3, q4, q5, q6, q7⟩ := q
  obtain ⟨p0, ⟨p1, p2, p3⟩, p4, p5, p6, p7⟩ := p
  refine ⟨yI_b q1 p0, fun w k' j => ?_, ⟨?_, fun k' => ?_, fun s => ?_, ?_⟩, fun z' hz' => ?_, q5, ?_, fun k' => ?_⟩
  · have e := q2 w k' j
    rw [yI_at, yI_at]
    constructor
    · intro m
      constructor
      · split
        · rename_i c; exact (p7 (Or.inl (by rw [← c.1]))).1 (by rw [← c.2]; exact m)
        · exact (e.1 m).1
      · split
        · rename_i c; exact (p7 (Or.inr (by rw [← c.1]))).1 (by rw [← c.2]; exact m)
        · exact (e.1 m).2
    · intro m
      constructor
      · split
        · rename_i c; exact (p7 (Or.inl (by rw [← c.1]))).2 (by rw [← c.2]; exact m)
        · exact (e.2 m).1
      · split
        · rename_i c; exact (p7 (Or.inr (by rw [← c.1]))).2 (by rw [← c.2]; exact m)
        · exact (e.2 m).2
  · rw [yI_z _ _ (fun e => p3 (by rw [← e]))]; exact q3.1
  · have e := q3.2.1 k'
    by_cases c : z = (10, 0, k')
    · subst c
      have p4 := p4 rfl
      rw [yI_at, yI_at]
      by_cases c5 : i = 5
      · rw [if_neg (by omega), if_pos ⟨rfl, c5.symm⟩]; exact p4.2.2.1 c5
      · by_cases c7 : i = 7
        · rw [if_pos ⟨rfl, c7.symm⟩, if_neg (by omega)]; exact p4.2.2.2 c7
        · rw [if_neg (by omega), if_neg (by omega)]; exact e
    · rw [yI_z _ _ (fun e => c e.symm), yI_z _ _ (fun e => c e.symm)]; exact e
  · have e := q3.2.2.1 s
    by_cases c : z = (20, 0, s)
    · subst c
      have p5 := p5 rfl
      rw [yI_at, yI_at]
      by_cases c5 : i = 0
      · rw [if_pos ⟨rfl, c5.symm⟩]
        exact fun h => absurd h (p5.1 c5)
      · rw [if_neg (by omega)]
        by_cases c7 : i = 6
        · rw [if_pos ⟨rfl, c7.symm⟩]; exact fun _ => p5.2 c7
        · rw [if_neg (by omega)]; exact e
    · rw [yI_z _ _ (fun e => c e.symm), yI_z _ _ (fun e => c e.symm)]; exact e
  · rw [yI_at]
    split
    · rename_i c; exact p6 (by rw [← c.1]) c.2.symm
    · exact q3.2.2.2
  · refine ⟨funext fun j => ?_, (q4 z' hz').2⟩
    rw [yI_z _ _ (fun e => by rw [e] at hz'; omega), (q4 z' hz').1]
  · rw [← q6]
    exact funext fun j => yI_z _ _ (fun e => p3 (by rw [← e]))
  · rw [yI_n _ _ (fun e => by
      have := (p4 (by rw [← e.1])).1
      exact this e.2.symm)]
    refine ⟨(q7 k').1, ?_, ?_⟩
    · rw [yI_at]
      split
      · rename_i c; exact (p4 (by rw [← c.1])).2.1 c.2.symm
      · exact (q7 k').2.1
    · rw [yI_at]
      split
      · rename_i c; exact (p5 (by rw [← c.1])).2 c.2.symm
      · exact (q7 k').2.2
theorem yKp_row {z : zJ} {r : Nat → Int32} (q : yKp b W0 W) (h1 : z.2.1 = 0) (h2 : z.1 < 24) : yKp b W0 (yRow W z r) := by
  obtain ⟨q1, q2, q3, q4, q5, q6, q7⟩ := q
  refine ⟨q1, q2, q3, fun z' hz' => ⟨(q4 z' hz').1, ?_⟩, q5, q6, q7⟩
  show (z_upR W.2 z r).1 z' = _
  rw [(z_upR_o z' (fun e => by rw [e] at hz'; omega)).1]
  exact (q4 z' hz').2
theorem yKp_R {z : zJ} {i : Nat} {x : Int32} (q : yKp b W0 W) (h1 : z.2.1 = 0) (h2 : z.1 < 24) : yKp b W0 (yR W z i x) := yKp_row (r := upd (W.2.1 z) i x) q h1 h2
theorem yKp_Cs {a c : zJ} {p q' n : Nat} (q : yKp b W0 W) (h1 : c.2.1 = 0) (h2 : c.1 = 13 ∨ c.1 = 15 ∨ c.1 = 23) : yKp b W0 (yCp W a c p q' n) := by
  obtain ⟨q1, q2, q3, q4, q5, q6, q7⟩ := q
  have n1 : ∀ z i, z ≠ c → (yCp W a c p q' n).1 z i = W.1 z i := fun z i h => by rw [yCp_at, if_neg (fun e => h e.1)]
  have ne : ∀ x y w, x ≠ 13 → x ≠ 15 → x ≠ 23 → ((x, y, w) : zJ) ≠ c := fun x y w a1 a2 a3 e => by rw [← e] at h2; simp at h2; omega
  refine ⟨yCp_b q1, yEn_Cs q2 (by omega) (by omega), ⟨?_, fun k' => ?_, fun s => ?_, ?_⟩, fun z' hz' => ?_, q5, ?_, fun k' => ?_⟩
  · rw [n1 _ _ (ne _ _ _ (by decide) (by decide) (by decide))]; exact q3.1
  · rw [n1 _ _ (ne _ _ _ (by decide) (by decide) (by decide)), n1 _ _ (ne _ _ _ (by decide) (by decide) (by decide))]; exact q3.2.1 k'
  · rw [n1 _ _ (ne _ _ _ (by decide) (by decide) (by decide)), n1 _ _ (ne _ _ _ (by decide) (by decide) (by decide))]; exact q3.2.2.1 s
  · rw [n1 _ _ (ne _ _ _ (by decide) (by decide) (by decide))]; exact q3.2.2.2
  · have e : z' ≠ c := fun e => by rw [e] at hz'; omega
    refine ⟨funext fun j => by rw [n1 _ _ e, (q4 z' hz').1], ?_⟩
    show (z_upR W.2 c _).1 z' = _
    rw [(z_upR_o z' e).1]
    exact (q4 z' hz').2
  · rw [← q6]
    exact funext fun j => n1 _ _ (ne _ _ _ (by decide) (by decide) (by decide))
  · rw [n1 _ _ (ne _ _ _ (by decide) (by decide) (by decide)), n1 _ _ (ne _ _ _ (by decide) (by decide) (by decide)), n1 _ _ (ne _ _ _ (by decide) (by decide) (by decide))]; exact q7 k'
theorem yKp_Ce {a c : zJ} {p q' n : Nat} (q : yKp b W0 W) (h1 : c.2.1 = 0) (h2 : c.1 = 11 ∨ c.1 = 21) (ha : a.1 = 11 ∨ a.1 = 21) (hp : p % 6 = 0) (hq : q' % 6 = 0) : yKp b W0 (yCp W a c p q' n) := by
  obtain ⟨q1, q2, q3, q4, q5, q6, q7⟩ := q
  have n1 : ∀ z i, z ≠ c → (yCp W a c p q' n).1 z i = W.1 z i := fun z i h => by rw [yCp_at, if_neg (fun e => h e.1)]
  have ne : ∀ x y w, x ≠ 11 → x ≠ 21 → ((x, y, w) : zJ) ≠ c := fun x y w a1 a2 e => by rw [← e] at h2; simp at h2; omega
  refine ⟨yCp_b q1, yEn_Cp q2 ha h2 hp hq, ⟨?_, fun k' => ?_, fun s => ?_, ?_⟩, fun z' hz' => ?_, q5, ?_, fun k' => ?_⟩
  · rw [n1 _ _ (ne _ _ _ (by decide) (by decide))]; exact q3.1
  · rw [n1 _ _ (ne _ _ _ (by decide) (by decide)), n1 _ _ (ne _ _ _ (by decide) (by decide))]; exact q3.2.1 k'
  · rw [n1 _ _ (ne _ _ _ (by decide) (by decide)), n1 _ _ (ne _ _ _ (by decide) (by decide))]; exact q3.2.2.1 s
  · rw [n1 _ _ (ne _ _ _ (by decide) (by decide))]; exact q3.2.2.2
  · have e : z' ≠ c := fun e => by rw [e] at hz'; omega
    refine ⟨funext fun j => by rw [n1 _ _ e, (q4 z' hz').1], ?_⟩
    show (z_upR W.2 c _).1 z' = _
    rw [(z_upR_o z' e).1]
    exact (q4 z' hz').2
  · rw [← q6]
    exact funext fun j => n1 _ _ (ne _ _ _ (by decide) (by decide))
  · rw [n1 _ _ (ne _ _ _ (by decide) (by decide)), n1 _ _ (ne _ _ _ (by decide) (by decide)), n1 _ _ (ne _ _ _ (by decide) (by decide))]; exact q7 k'
/-- slot s is written anew -/
theorem yKp_slot {W' : yW} {s : Nat} (q : yKp b W0 W) (h2 : W'.2 = W.2) (hz : ∀ z : zJ, z ≠ (20, 0, s) → W'.1 z = W.1 z) (hb : ∀ i, W'.1 (20, 0, s) i < b) (h6 : W'.1 (20, 0, s) 6 ≤ 5) : yKp b W0 W' := by
  obtain ⟨q1, q2, q3, q4, q5, q6, q7⟩ := q
  refine ⟨fun z i => ?_, fun w k' j => ?_, ⟨?_, fun k' => ?_, fun s' => ?_, ?_⟩, fun z' hz' => ?_, by rw [h2]; exact q5, ?_, fun k' => ?_⟩
  · by_cases c : z = (20, 0, s)
    · rw [c]; exact hb i
    · rw [hz z c]; exact q1 z i
  · rw [hz _ (by simp), hz _ (by simp)]; exact q2 w k' j
  · rw [hz _ (by simp)]; exact q3.1
  · rw [hz _ (by simp)]; exact q3.2.1 k'
  · by_cases c : s' = s
    · rw [c]; exact fun _ => h6
    · rw [hz _ (by simp [c])]; exact q3.2.2.1 s'
  · rw [hz _ (by simp)]; exact q3.2.2.2
  · rw [hz _ (fun e => by rw [e] at hz'; simp at hz'), h2]; exact q4 z' hz'
  · rw [hz _ (by simp)]; exact q6
  · refine ⟨by rw [hz _ (by simp)]; exact (q7 k').1, by rw [hz _ (by simp)]; exact (q7 k').2.1, ?_⟩
    by_cases c : k' = s
    · rw [c]; exact h6
    · rw [hz _ (by simp [c])]; exact (q7 k').2.2
theorem yKp_write {s kd a c t : Nat} (q : yKp b W0 W) (h0 : kd + 1 < b) (h1 : a < b) (h2 : c < b) (h3 : t < b) : yKp b W0 (sWrite s kd a c t W) := by
  refine yKp_slot (s := s) q rfl (fun z hz => funext fun i => sWrite_at i hz) (fun i => sWrite_b q.1 h0 h1 h2 h3 _ _) ?_
  rw [(sWrite_s s kd a c t W).2.2.2.2.2.2.1]
  exact Nat.zero_le _
theorem yKp_copyL {e s : Nat} (q : yKp b W0 W) : yKp b W0 (sCopyL 0 e 0 s W) := by
  unfold sCopyL
  refine yKp_Cs (yKp_Ce (yKp_slot (W' := sCopyN 0 e 0 s W) (s := e) q rfl (fun z hz => funext fun i => by rw [sCopyN_at, if_neg (fun x => hz x.1)]) (fun i => ?_) ?_) rfl (by simp) (by simp) (by decide) (by decide)) rfl (by simp)
  · rw [sCopyN_at]
    split
    · exact q.1 _ _
    · exact q.1 _ _
  · rw [sCopyN_at, if_pos ⟨rfl, by decide⟩]
    exact (q.2.2.2.2.2.2 s).2.2
theorem yKp_forget {e : Nat} (q : yKp b W0 W) (he : e < b) : yKp b W0 (sForget k e W) := by
  unfold sForget
  by_cases c : W.1 (10, 0, k) 5 < e ∧ e ≤ W.1 (10, 0, k) 7
  · rw [if_pos c]
    have a := q.2.2.1.2.1 k
    refine yKp_I (yKp_Ce q rfl (by simp) (by simp) (by omega) (by decide)) ⟨he, ⟨rfl, by simp, by simp⟩, fun _ => ⟨by decide, fun h => absurd h (by decide), fun _ => ?_, fun h => absurd h (by decide)⟩, fun h => absurd h (by simp), fun h => absurd h (by simp), fun h => absurd h (by simp)⟩
    rw [yCp_at, if_neg (by simp)]
    omega
  · rw [if_neg c]
    obtain ⟨q1, q2, q3, q4, q5, q6, q7⟩ := q
    have n1 : ∀ (z : zJ) i, ¬ (z = (10, 0, k) ∧ (i = 5 ∨ i = 7)) → (yI (yI W (10, 0, k) 7 e) (10, 0, k) 5 e).1 z i = W.1 z i := fun z i h => by
      rw [yI_n _ _ (fun x => h ⟨x.1, Or.inl x.2⟩), yI_n _ _ (fun x => h ⟨x.1, Or.inr x.2⟩)]
    refine ⟨yI_b (yI_b q1 he) he, yEn_I (yEn_I q2 (by simp) (by simp)) (by simp) (by simp), ⟨?_, fun k' => ?_, fun s => ?_, ?_⟩, fun z' hz' => ?_, q5, ?_, fun k' => ?_⟩
    · rw [n1 _ _ (by simp)]; exact q3.1
    · by_cases c : k' = k
      · rw [c, yI_s, yI_i _ _ (by decide), yI_s]; omega
      · rw [n1 _ _ (by simp [c]), n1 _ _ (by simp [c])]; exact q3.2.1 k'
    · rw [n1 _ _ (by simp), n1 _ _ (by simp)]; exact q3.2.2.1 s
    · rw [n1 _ _ (by simp)]; exact q3.2.2.2
    · refine ⟨funext fun j => ?_, (q4 z' hz').2⟩
      rw [n1 _ _ (fun e => by rw [e.1] at hz'; simp at hz'), (q4 z' hz').1]
    · rw [← q6]
      exact funext fun j => n1 _ _ (by simp)
    · rw [n1 _ _ (by omega), n1 _ _ (by omega), n1 _ _ (by simp)]; exact q7 k'
/-- a number of keeper k that is none of voter, folded, last -/
theorem yKp_k {i v : Nat} (q : yKp b W0 W) (hv : v < b) (hi : i ≠ 0 ∧ i ≠ 1 ∧ i ≠ 5 ∧ i ≠ 7) : yKp b W0 (yI W (10, 0, k) i v) := yKp_I q ⟨hv, ⟨rfl, by simp, by simp⟩, fun _ => ⟨hi.1, fun h => absurd h hi.2.1, fun h => absurd h hi.2.2.1, fun h => absurd h hi.2.2.2⟩, fun h => absurd h (by simp), fun h => absurd h (by simp), fun h => absurd h (by simp)⟩
theorem yKp_1 {v : Nat} (q : yKp b W0 W) (hv : v < b) (h : v ≤ 1) : yKp b W0 (yI W (10, 0, k) 1 v) := yKp_I q ⟨hv, ⟨rfl, by simp, by simp⟩, fun _ => ⟨by decide, fun _ => h, fun h => absurd h (by decide), fun h => absurd h (by decide)⟩, fun h => absurd h (by simp), fun h => absurd h (by simp), fun h => absurd h (by simp)⟩
theorem yKp_7 {v : Nat} (q : yKp b W0 W) (hv : v < b) (h : v ≤ W.1 (10, 0, k) 5 + 40) : yKp b W0 (yI W (10, 0, k) 7 v) := yKp_I q ⟨hv, ⟨rfl, by simp, by simp⟩, fun _ => ⟨by decide, fun h => absurd h (by decide), fun h => absurd h (by decide), fun _ => h⟩, fun h => absurd h (by simp), fun h => absurd h (by simp), fun h => absurd h (by simp)⟩
theorem yKp_l {s i v : Nat} (q : yKp b W0 W) (hv : v < b) (hi : i ≠ 0 ∧ i ≠ 6) : yKp b W0 (yI W (20, 0, s) i v) := yKp_I q ⟨hv, ⟨rfl, by simp, by simp⟩, fun h => absurd h (by simp), fun _ => ⟨fun h => absurd h hi.1, fun h => absurd h hi.2⟩, fun h => absurd h (by simp), fun h => absurd h (by simp)⟩
theorem yKp_a {t i v : Nat} (q : yKp b W0 W) (ht : t = 16 ∨ t = 17 ∨ t = 18 ∨ t = 19) (hv : v < b) : yKp b W0 (yI W (t, 0, k) i v) := yKp_I q ⟨hv, ⟨rfl, by show t < 24; omega, by show t ≠ 0; omega⟩, fun h => absurd h (by show t ≠ 10; omega), fun h => absurd h (by show t ≠ 20; omega), fun h => absurd h (by show t ≠ 4; omega), fun h => absurd h (by show ¬ (t = 11 ∨ t = 21); omega)⟩
theorem yKp_e {i v : Nat} (q : yKp b W0 W) (hv : v < b) (h : (i % 6 = 1 → v < 6) ∧ (i % 6 = 4 → v < 8)) : yKp b W0 (yI W (11, 0, k) i v) := yKp_I q ⟨hv, ⟨rfl, by simp, by simp⟩, fun h => absurd h (by simp), fun h => absurd h (by simp), fun h => absurd h (by simp), fun _ => h⟩
theorem yKp_0 (q : yKp b W0 W) : 0 < b := Nat.lt_of_le_of_lt (Nat.zero_le _) (q.1 (0, 0, 0) 0)
theorem yKp_follow (q : yKp b W0 W) : yKp b W0 (sFollow k W) := yKp_k (yKp_k (yKp_k q (yKp_0 q) (by decide)) (yKp_0 q) (by decide)) (yKp_0 q) (by decide)
theorem yKp_enter {t : Nat} (q : yKp b W0 W) (ht : t < b) : yKp b W0 (sEnter k t W) := yKp_follow (yKp_k (yKp_k q ht (by decide)) (yKp_0 q) (by decide))
theorem yKp_rise (q : yKp b W0 W) : yKp b W0 (yI W (10, 0, k) 1 0) := yKp_1 q (yKp_0 q) (by decide)
theorem yKp_drop {s : Nat} (q : yKp b W0 W) : yKp b W0 (yI W (20, 0, s) 0 0) := yKp_I q ⟨yKp_0 q, ⟨rfl, by simp, by simp⟩, fun h => absurd h (by simp), fun _ => ⟨fun _ => by decide, fun h => absurd h (by decide)⟩, fun h => absurd h (by simp), fun h => absurd h (by simp)⟩
theorem yKp_out {s : Nat} (q : yKp b W0 W) : yKp b W0 (sOut s W) := yKp_drop (yKp_copyL q)
theorem yKp_fall (q : yKp b W0 W) (hb : 1 < b) : yKp b W0 (sFall k W) := yKp_Cs (yKp_k (yKp_follow (yKp_1 q hb (by decide))) (q.1 _ _) (by decide)) rfl (by simp)
theorem yKp_read {c : Nat} (q : yKp b W0 W) (hk : k < b) (hc : c < b) (h : W.1 (4, 0, 0) 4 < 40) (hb : 40 < b) : yKp b W0 (sRead k c W) := by
  have p : ∀ {V : yW} {t i v : Nat}, yKp b W0 V → t = 5 ∨ t = 6 ∨ t = 7 ∨ t = 8 → v < b → yKp b W0 (yI V (t, 0, 0) i v) := fun {V t i v} q ht hv => yKp_I q ⟨hv, ⟨rfl, by show t < 24; omega, by show t ≠ 0; omega⟩, fun h => absurd h (by show t ≠ 10; omega), fun h => absurd h (by show t ≠ 20; omega), fun h => absurd h (by show t ≠ 4; omega), fun h => absurd h (by show ¬ (t = 11 ∨ t = 21); omega)⟩
  exact yKp_I (p (p (p (p q (by omega) hk) (by omega) hc) (by omega) (q.1 _ _)) (by omega) (q.1 _ _)) ⟨by omega, ⟨rfl, by simp, by simp⟩, fun h => absurd h (by simp), fun h => absurd h (by simp), fun _ _ => by omega, fun h => absurd h (by simp)⟩
theorem yKp_take {t P : Nat} (q : yKp b W0 W) (ht : t < 24) : yKp b W0 (sTake (t, 0, k) k P W) := yKp_row q rfl ht
theorem yKp_adv : ∀ (m : Nat) (W : yW), yKp b W0 W → W.1 (10, 0, k) 8 + m < b → yKp b W0 (sAdv k m W) := by
  intro m
  induction m with
  | zero => intro W q _; exact q
  | succ m ih =>
    intro W q h
    rw [sAdv]
    refine ih _ (yKp_take (yKp_k q (by omega) (by decide)) (by decide)) ?_
    rw [sAdv1_1, yI_s]
    omega
theorem yKp_settle (q : yKp b W0 W) : yKp b W0 (sSettle k W) := by
  unfold sSettle
  cases hf : sFind (sSetP k W) (W.1 (10, 0, k) 8) (W.1 (10, 0, k) 7) with
  | none => exact q
  | some e =>
    obtain ⟨f1, f2, -, -⟩ := sFind_some hf
    have := q.1 (10, 0, k) 7
    exact yKp_adv _ W q (by omega)
theorem yKp_cmd {c n h' e : Nat} {v : Int32} (q : yKp b W0 W) (h : W.1 (10, 0, k) 7 < W.1 (10, 0, k) 5 + 40) (hc : c < 6) (hn : n < b) (hh : h' < b) (he : e < 8) (hb : 8 < b) : yKp (b + 1) W0 (sCmd k c n h' e v W) := by
  have b7 := q.1 (10, 0, k) 7
  have b2 := q.1 (10, 0, k) 2
  unfold sCmd
  exact yKp_R (yKp_e (yKp_e (yKp_e (yKp_e (yKp_e (yKp_7 (yKp_mono (Nat.le_succ b) q) (by omega) (by omega)) (by omega) (by omega)) (by omega) (by omega)) (by omega) (by omega)) (by omega) (by omega)) (by omega) (by omega)) rfl (by simp)
theorem yKp_ld : ∀ (m i : Nat) (W : yW), yKp b W0 W → W.1 (10, 0, k) 7 + 1 < b → yKp b W0 (sLd k m i W) := by
  intro m
  induction m with
  | zero => intro i W q _; exact q
  | succ m ih =>
    intro i W q h
    rw [sLd]
    refine ih _ _ (yKp_a (yKp_a (yKp_a (yKp_a q (by omega) h) (by omega) (yKp_0 q)) (by omega) (yKp_0 q)) (by omega) (yKp_0 q)) ?_
    rw [yI_z _ _ (by simp), yI_z _ _ (by simp), yI_z _ _ (by simp)]
    exact h
theorem yKp_chosen (q : yKp b W0 W) (hb : 2 < b) : yKp (b + 1) W0 (sChosen k W) := by
  have b7 := q.1 (10, 0, k) 7
  unfold sChosen sLead
  split
  · refine yKp_ld 7 0 _ (yKp_k (yKp_k (yKp_mono (Nat.le_succ b) q) (by omega) (by decide)) (by omega) (by decide)) ?_
    rw [yI_i _ _ (by decide), yI_i _ _ (by decide)]
    omega
  · exact yKp_mono (Nat.le_succ b) q
theorem yKp_ask1 {i : Nat} (q : yKp b W0 W) (hb : 8 < b) (hk : k < 7) (hi : i < 7) : yKp b W0 (sAsk1 k i W) := by
  unfold sAsk1
  split
  · exact q
  · exact yKp_l (yKp_l (yKp_write q (by omega) (by omega) (by omega) (q.1 _ _)) (q.1 _ _) (by decide)) (sTm_b q.1) (by decide)
theorem yKp_askL (hb : 8 < b) (hk : k < 7) : ∀ (m i : Nat) (W : yW), i + m ≤ 7 → yKp b W0 W → yKp b W0 (sAskL k m i W) := by
  intro m
  induction m with
  | zero => intro i W _ q; exact q
  | succ m ih =>
    intro i W hi q
    rw [sAskL]
    split
    · exact ih _ _ (by omega) q
    · exact ih _ _ (by omega) (yKp_ask1 q hb hk (by omega))
theorem yKp_ask (q : yKp b W0 W) (hb : 200 ≤ b) (hk : k < W.1 (0, 0, 0) 3) : yKp (b + 2) W0 (sAsk k W) := by
  have hN := q.2.2.1.1
  have b2 := q.1 (10, 0, k) 2
  have p := y_pow k (by omega)
  unfold sAsk sStand
  exact yKp_chosen (yKp_askL (by omega) (by omega) _ _ _ (by omega) (yKp_k (yKp_k (yKp_k (yKp_enter (yKp_mono (Nat.le_succ b) q) (by omega)) (by omega) (by decide)) (by omega) (by decide)) (by omega) (by decide))) (by omega)
theorem yKp_reply {kd y n : Nat} (q : yKp b W0 W) (hb : 8 < b) (hkd : kd ≤ 4) (hy : y ≤ 1) (hn : n < b) : yKp b W0 (sReply kd y n W) := by
  cases hs : sEmp W with
  | none =>
    have : sReply kd y n W = W := by unfold sReply; rw [hs]
    rw [this]; exact q
  | some s =>
    rw [sReply_s hs]
    unfold sLet
    exact yKp_l (yKp_l (yKp_l (yKp_l (yKp_write q (by omega) (q.1 _ _) (q.1 _ _) (q.1 _ _)) (by omega) (by decide)) hn (by decide)) (q.1 _ _) (by decide)) (q.1 _ _) (by decide)
theorem yKp_takeF {e t : Nat} (q : yKp b W0 W) (he : e < b) (ht : t < b) : yKp b W0 (sTakeF k e t W) := yKp_Cs (yKp_k (yKp_Cs (yKp_k (yKp_forget q he) ht (by decide)) rfl (by simp)) he (by decide)) rfl (by simp)
theorem yKp_fold (q : yKp b W0 W) : yKp b W0 (sFold k W) := by
  unfold sFold
  split
  · exact q
  · split
    · exact yKp_takeF q (q.1 _ _) (q.1 _ _)
    · exact yKp_takeF (yKp_7 q (q.1 _ _) (by omega)) (q.1 _ _) (q.1 _ _)
theorem yKp_cut {e : Nat} (q : yKp b W0 W) : yKp b W0 (sCut k e W) := by
  have b7 := q.1 (10, 0, k) 7
  have a := q.2.2.1.2.1 k
  exact yKp_7 q (by omega) (by omega)
theorem yKp_ent : ∀ (m r i b : Nat) (W : yW), yKp b W0 W → yKp (b + m) W0 (sEnt k m r i W).2 ∧ (sEnt k m r i W).1 ≤ r + m := by
  intro m
  induction m with
  | zero => intro r i b W q; exact ⟨q, Nat.le_refl _⟩
  | succ m ih =>
    intro r i b W q
    rw [sEnt]
    split
    · have := ih (r + 1) (i + 1) b W q
      exact ⟨yKp_mono (by omega) this.1, by omega⟩
    · split
      · rename_i c
        have q1 := yKp_cut (k := k) (e := r + 1) q
        have b7 := q1.1 (10, 0, k) 7
        have c5 : (sCut k (r + 1) W).1 (10, 0, k) 5 = W.1 (10, 0, k) 5 := sCut_at (by simp)
        have := ih (r + 1) (i + 1) (b + 1) _ (yKp_Ce (a := (21, 0, 40)) (c := (11, 0, k)) (p := 6 * i) (q' := 6 * ((sCut k (r + 1) W).1 (10, 0, k) 7 - W.1 (10, 0, k) 5)) (n := 6) (yKp_7 (k := k) (v := (sCut k (r + 1) W).1 (10, 0, k) 7 + 1) (yKp_mono (Nat.le_succ b) q1) (by omega) (by rw [c5]; omega)) rfl (by simp) (by simp) (by omega) (by omega))
        exact ⟨yKp_mono (by omega) this.1, by omega⟩
      · exact ⟨yKp_mono (by omega) (yKp_cut q), by show r ≤ _; omega⟩
theorem yKp_ldr (q : yKp b W0 W) (hb : 8 < b) (h6 : W.1 (20, 0, 40) 0 = 3 ∨ W.1 (20, 0, 40) 0 = 5) (h8 : W.1 (10, 0, k) 8 ≤ W.1 (10, 0, k) 7) : yKp (b + 6) W0 (sLdr k W) := by
  have b4 := q.1 (20, 0, 40) 4
  unfold sLdr
  by_cases c5 : W.1 (20, 0, 40) 0 = 5
  · rw [if_pos c5]
    exact yKp_mono (by omega) (yKp_reply (yKp_fold q) hb (by decide) (by decide) (q.1 _ _))
  · rw [if_neg c5]
    split
    · exact yKp_mono (by omega) (yKp_reply (yKp_cut q) hb (by decide) (by decide) (by omega))
    · have a6 := q.2.2.1.2.2.1 40 (by omega)
      obtain ⟨e1, e2⟩ := yKp_ent (k := k) (W.1 (20, 0, 40) 6) (W.1 (20, 0, 40) 4) 0 b W q
      have e1 := yKp_mono (show b + W.1 (20, 0, 40) 6 ≤ b + 5 by omega) e1
      have ei := (sEnt_inv k (W.1 (20, 0, 40) 6) (W.1 (20, 0, 40) 4) 0 b W q.1 q.2.1 h8 (q.2.2.1.2.1 k)).2.2.1 (10, 0, k) 8 (by simp) (by simp)
      unfold sApp
      dsimp only
      generalize sEnt k (W.1 (20, 0, 40) 6) (W.1 (20, 0, 40) 4) 0 W = p at e1 e2 ei ⊢
      have p7 := e1.1 (10, 0, k) 7
      have p8 := e1.1 (10, 0, k) 8
      exact yKp_reply (yKp_mono (by omega) (yKp_adv _ _ e1 (by omega))) (by omega) (by decide) (by decide) (by omega)
theorem yKp_hd (q : yKp b W0 W) : yKp b W0 (sHd k W) := by
  have c1 := q.1 (19, 0, k) (W.1 (20, 0, 40) 1)
  have c2 := q.1 (20, 0, 40) 8
  unfold sHd
  refine yKp_a q (by omega) ?_
  split
  · omega
  · omega
theorem yKp_ans (q : yKp b W0 W) (hb : 8 < b) : yKp (b + 1) W0 (sAns k W) := by
  have c1 := q.1 (18, 0, k) (W.1 (20, 0, 40) 1)
  have c2 := q.1 (20, 0, 40) 8
  have c3 := q.1 (17, 0, k) (W.1 (20, 0, 40) 1)
  have c4 := q.1 (20, 0, 40) 5
  have c5 := q.1 (16, 0, k) (W.1 (20, 0, 40) 1)
  unfold sAns
  dsimp only
  have q1 := yKp_a (t := 18) (k := k) (i := W.1 (20, 0, 40) 1) (v := max (W.1 (18, 0, k) (W.1 (20, 0, 40) 1)) (W.1 (20, 0, 40) 8)) (yKp_mono (Nat.le_succ b) q) (by omega) (by omega)
  split
  · exact yKp_a (yKp_a q1 (by omega) (by omega)) (by omega) (by omega)
  · exact yKp_a q1 (by omega) (by omega)
theorem yKp_gets (q : yKp b W0 W) (hb : 200 ≤ b) (hk : k < 7) (hf : W.1 (20, 0, 40) 1 < 7) (h0 : W.1 (20, 0, 40) 0 ≠ 0) (h5 : W.1 (20, 0, 40) 0 ≤ 5) (h9 : W.1 (10, 0, k) 9 < 128) (h8 : W.1 (10, 0, k) 8 ≤ W.1 (10, 0, k) 7) : yKp (b + 6) W0 (sGets k W) := by
  unfold sGets
  by_cases c1 : W.1 (20, 0, 40) 0 = 1
  · rw [if_pos c1]
    split
    · exact yKp_mono (by omega) (yKp_reply (yKp_k q (by omega) (by decide)) (by omega) (by decide) (by decide) (by omega))
    · exact yKp_mono (by omega) (yKp_reply q (by omega) (by decide) (by decide) (by omega))
  rw [if_neg c1]
  by_cases c2 : W.1 (20, 0, 40) 0 = 2
  · rw [if_pos c2]
    unfold sBallot
    split
    · have := y_or_lt _ h9 _ hf
      exact yKp_mono (by omega) (yKp_chosen (yKp_k q (by omega) (by decide)) (by omega))
    · exact yKp_mono (by omega) q
  rw [if_neg c2]
  by_cases c4 : W.1 (20, 0, 40) 0 = 4
  · rw [if_pos c4]
    split
    · exact yKp_mono (by omega) (yKp_settle (yKp_ans (yKp_hd q) (by omega)))
    · exact yKp_mono (by omega) q
  rw [if_neg c4]
  unfold sFromL
  split
  · exact yKp_mono (by omega) (yKp_reply q (by omega) (by decide) (by decide) (by omega))
  · split
    · exact yKp_mono (by omega) q
    · refine yKp_ldr (yKp_follow q) (by omega) ?_ ?_
      · rw [sFollow_n (by simp)]; omega
      · rw [sFollow_n (by omega), sFollow_n (by omega)]; exact h8
theorem yKp_del1 {s : Nat} (q : yKp b W0 W) : yKp b W0 (sDel1 s W) := by
  unfold sDel1
  split
  · exact yKp_enter (yKp_out q) (q.1 _ _)
  · exact yKp_out q
theorem yKp_put {s x : Nat} : ∀ (m i : Nat) (W : yW), i + m ≤ 5 → 8 < b → yKp b W0 W → yKp b W0 (sPut k s x m i W) := by
  intro m
  induction m with
  | zero => intro i W _ _ q; exact q
  | succ m ih =>
    intro i W hi hb q
    rw [sPut]
    exact ih _ _ (by omega) hb (yKp_I (yKp_Ce q rfl (by simp) (by simp) (by omega) (by omega)) ⟨by omega, ⟨rfl, by simp, by simp⟩, fun h => absurd h (by simp), fun _ => ⟨fun h => absurd h (by decide), fun _ => by omega⟩, fun h => absurd h (by simp), fun h => absurd h (by simp)⟩)
theorem yKp_send {o s : Nat} (q : yKp b W0 W) (hb : 200 ≤ b) (hk : k < 7) (ho : o < 7) : yKp (b + 1) W0 (sSend k o s W) := by
  have b10 := q.1 (10, 0, k) 10
  have b16 := q.1 (16, 0, k) o
  have b5 := q.1 (10, 0, k) 5
  have b6 := q.1 (10, 0, k) 6
  have b8 := q.1 (10, 0, k) 8
  have b2 := q.1 (10, 0, k) 2
  have bt := sTm_b (k := k) (e := W.1 (16, 0, k) o - 1) q.1
  have qq := yKp_mono (Nat.le_succ b) q
  unfold sSend
  split
  · exact yKp_Cs (yKp_l (yKp_l (yKp_l (yKp_k (yKp_write qq (by omega) (by omega) (by omega) (by omega)) (by omega) (by decide)) (by omega) (by decide)) (by omega) (by decide)) (by omega) (by decide)) rfl (by simp)
  · exact yKp_put _ _ _ (by omega) (by omega) (yKp_l (yKp_l (yKp_l (yKp_l (yKp_k (yKp_write qq (by omega) (by omega) (by omega) (by omega)) (by omega) (by decide)) (by omega) (by decide)) (by omega) (by decide)) (by omega) (by decide)) (by omega) (by decide))
theorem yKp_foldL : ∀ (m i : Nat) (W : yW), yKp b W0 W → yKp b W0 (sFoldL k m i W) := by
  intro m
  induction m with
  | zero => intro i W q; exact q
  | succ m ih => intro i W q; rw [sFoldL]; exact ih _ _ (yKp_take q (by decide))
theorem yKp_foldTo {e : Nat} (q : yKp b W0 W) (he : e < b) : yKp b W0 (sFoldTo k e W) := yKp_k (yKp_forget (yKp_foldL _ _ _ q) he) (sTm_b q.1) (by decide)
end ykeep
