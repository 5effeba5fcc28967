/-! what the keepers' logs are to each other: only the entries' terms matter -/
/-- the log X agrees, up to its entry n, with the log of the leader of that entry's term, which is at most b -/
def yLM (L : Nat → Nat → Nat) (len lead : Nat → Nat) (X : Nat → Nat) (b n : Nat) : Prop := 1 ≤ X n ∧ X n ≤ b ∧ lead (X n) ≠ 0 ∧ n ≤ len (X n) ∧ ∀ m, m ≤ n → X m = L (X n) m
/-- the log X of lx entries has the first m entries of the leader of T -/
def yHas (L : Nat → Nat → Nat) (X : Nat → Nat) (lx T m : Nat) : Prop := m ≤ lx ∧ ∀ i, i ≤ m → X i = L T i
def yBad (L : Nat → Nat → Nat) (len lead : Nat → Nat) (T m t : Nat) : Prop := lead t ≠ 0 ∧ ¬ yHas L (L t) (len t) T m
def yVot (N : Nat) (K : Nat → Nat → Nat) : Nat := z_cnt (fun o => decide (K o 0 ≠ 0)) N 0
def yMost (N : Nat) (K : Nat → Nat → Nat) (P : Nat → Bool) : Prop := yVot N K / 2 + 1 ≤ z_cnt (fun o => decide (K o 0 ≠ 0) && P o) N 0
/-- the first n entries of X are held by most of the voters -/
def yCP (N : Nat) (K L : Nat → Nat → Nat) (len : Nat → Nat) (ack : Nat → Nat → Nat) (X : Nat → Nat) (t n : Nat) : Prop := n = 0 ∨ ∃ T d, T ≤ t ∧ n ≤ d ∧ d ≤ len T ∧ L T d = T ∧ 1 ≤ d ∧ yMost N K (fun o => decide (d ≤ ack o T)) ∧ ∀ i, i ≤ n → X i = L T i
theorem z_cnt_two (P Q R : Nat → Bool) (hP : ∀ i, P i = true → R i = true) (hQ : ∀ i, Q i = true → R i = true) : ∀ m i : Nat, z_cnt P m i + z_cnt Q m i ≤ z_cnt R m i + z_cnt (fun j => P j && Q j) m i := by
  intro m
  induction m with
  | zero => intro i; exact Nat.le_refl 0
  | succ m ih =>
    intro i
    have h1 := ih (i + 1)
    have h2 := hP i
    have h3 := hQ i
    show (if P i = true then 1 else 0) + z_cnt P m (i + 1) + ((if Q i = true then 1 else 0) + z_cnt Q m (i + 1)) ≤ (if R i = true then 1 else 0) + z_cnt R m (i + 1) + ((if (P i && Q i) = true then 1 else 0) + z_cnt (fun j => P j && Q j) m (i + 1))
    clear ih hP hQ
    grind
theorem z_cnt_pos (P : Nat → Bool) : ∀ m i : Nat, 0 < z_cnt P m i → ∃ j, i ≤ j ∧ j < i + m ∧ P j = true := by
  intro m
  induction m with
  | zero => intro i h; exact absurd h (Nat.lt_irrefl 0)
  | succ m ih =>
    intro i h
    cases hp : P i with
    | true => exact ⟨i, Nat.le_refl i, by omega, hp⟩
    | false =>
      have h : 0 < (if P i = true then 1 else 0) + z_cnt P m (i + 1) := h
      rw [hp] at h
      simp at h
      obtain ⟨j, h1, h2, h3⟩ := ih (i + 1) h
      exact ⟨j, by omega, by omega, h3⟩
theorem z_cnt_mono {P Q : Nat → Bool} : ∀ m i : Nat, (∀ j, i ≤ j → j < i + m → P j = true → Q j = true) → z_cnt P m i ≤ z_cnt Q m i := by
  intro m
  induction m with
  | zero => intro i _; exact Nat.le_refl 0
  | succ m ih =>
    intro i h
    have h1 := ih (i + 1) (fun j a b => h j (by omega) (by omega))
    have h2 := h i (Nat.le_refl i) (by omega)
    show (if P i = true then 1 else 0) + z_cnt P m (i + 1) ≤ (if Q i = true then 1 else 0) + z_cnt Q m (i + 1)
    clear ih h
    grind
theorem yMost_meet {N : Nat} {K : Nat → Nat → Nat} {P Q : Nat → Bool} (h1 : yMost N K P) (h2 : yMost N K Q) : ∃ o, o < N ∧ K o 0 ≠ 0 ∧ P o = true ∧ Q o = true := by
  unfold yMost yVot at h1 h2
  have h3 := z_cnt_two (fun o => decide (K o 0 ≠ 0) && P o) (fun o => decide (K o 0 ≠ 0) && Q o) (fun o => decide (K o 0 ≠ 0)) (by intro i; simp; intro a _; exact a) (by intro i; simp; intro a _; exact a) N 0
  obtain ⟨j, -, h4, h5⟩ := z_cnt_pos _ N 0 (show 0 < z_cnt (fun j => (decide (K j 0 ≠ 0) && P j) && (decide (K j 0 ≠ 0) && Q j)) N 0 by omega)
  simp at h5
  exact ⟨j, by omega, h5.1.1, h5.1.2, h5.2.2⟩
theorem yMost_mono {N : Nat} {K K' : Nat → Nat → Nat} {P Q : Nat → Bool} (hK : ∀ o, o < N → K' o 0 = K o 0) (h : ∀ o, o < N → K o 0 ≠ 0 → P o = true → Q o = true) (h1 : yMost N K P) : yMost N K' Q := by
  unfold yMost yVot at h1 ⊢
  have e1 : z_cnt (fun o => decide (K' o 0 ≠ 0)) N 0 ≤ z_cnt (fun o => decide (K o 0 ≠ 0)) N 0 := z_cnt_mono N 0 (fun j _ h2 => by rw [hK j (by omega)]; exact id)
  have e2 : z_cnt (fun o => decide (K o 0 ≠ 0) && P o) N 0 ≤ z_cnt (fun o => decide (K' o 0 ≠ 0) && Q o) N 0 := z_cnt_mono N 0 (fun j _ h2 => by
    have h3 := h j (by omega)
    rw [hK j (by omega)]
    simp
    intro a b
    exact ⟨a, h3 a b⟩)
  have e3 := Nat.div_le_div_right (c := 2) e1
  omega
/-- of the leaders' logs, of those who stood, of votes -/
def ySf (N : Nat) (K L : Nat → Nat → Nat) (len lead : Nat → Nat) (E V : Nat → Nat → Nat) (C : Nat → Nat → Nat → Nat) (cl ack : Nat → Nat → Nat) : Prop :=
  ((∀ t, L t 0 = 0) ∧ (∀ t c, C t c 0 = 0) ∧ (∀ t, lead t = 0 → len t = 0)) ∧
  (∀ t n, 1 ≤ n → n ≤ len t → yLM L len lead (L t) t n) ∧
  (∀ t m n, m ≤ n → n ≤ len t → L t m ≤ L t n) ∧
  (∀ t c, lead t = c + 1 → (c < N ∧ 1 ≤ t ∧ t ≤ K c 2 ∧ cl t c ≠ 0 ∧ cl t c ≤ len t + 1) ∧ (∀ n, n < cl t c → L t n = C t c n) ∧ yMost N K (fun o => decide (E t o ≠ 0)) ∧ ∀ o, o < N → E t o ≠ 0 → V t o = c + 1) ∧
  (∀ t c, cl t c ≠ 0 → c < N ∧ t ≤ K c 2 ∧ ∀ n, 1 ≤ n → n < cl t c → yLM L len lead (C t c) (t - 1) n) ∧
  (∀ t v c, v < N → V t v = c + 1 → cl t c ≠ 0 ∧ K v 0 ≠ 0) ∧
  (∀ v T, v < N → ack v T ≤ len T ∧ (0 < ack v T → T ≤ K v 2))
/-- of keeper v -/
def ySk (N : Nat) (K S L : Nat → Nat → Nat) (len lead : Nat → Nat) (E V : Nat → Nat → Nat) (C : Nat → Nat → Nat → Nat) (cl ack : Nat → Nat → Nat) (G : Nat → Nat → Nat) (v : Nat) : Prop :=
  (K v 5 ≤ K v 8 ∧ K v 8 ≤ K v 7 ∧ G v 0 = 0) ∧
  (∀ n, 1 ≤ n → n ≤ K v 7 → yLM L len lead (G v) (K v 2) n) ∧
  (V (K v 2) v = K v 3 ∧ ∀ t, K v 2 < t → V t v = 0) ∧
  (K v 4 = 1 → V (K v 2) v = v + 1 ∧ cl (K v 2) v = K v 7 + 1 ∧ (∀ n, n ≤ K v 7 → C (K v 2) v n = G v n) ∧ lead (K v 2) ≠ v + 1 ∧ (∀ o, o < N → (K v 9).testBit o = true → V (K v 2) o = v + 1)) ∧
  (K v 4 = 2 → lead (K v 2) = v + 1 ∧ K v 7 = len (K v 2) ∧ (∀ n, n ≤ K v 7 → G v n = L (K v 2) n) ∧ ack v (K v 2) = len (K v 2) ∧ ∀ o, o < N → S v o ≤ ack o (K v 2)) ∧
  yCP N K L len ack (G v) (K v 2) (K v 8) ∧
  (∀ T m, 1 ≤ m → m ≤ ack v T → L T m = T → yHas L (G v) (K v 7) T m ∨ ∃ t, T < t ∧ t ≤ K v 2 ∧ yBad L len lead T m t) ∧
  (∀ t c T m, V t v = c + 1 → (lead t = 0 ∨ E t v ≠ 0) → T < t → 1 ≤ m → m ≤ ack v T → L T m = T → yHas L (C t c) (cl t c - 1) T m ∨ ∃ t', T < t' ∧ t' < t ∧ yBad L len lead T m t')
section ySafe
variable {N : Nat} {K K' S S' L : Nat → Nat → Nat} {len lead : Nat → Nat} {E V : Nat → Nat → Nat} {C : Nat → Nat → Nat → Nat} {cl ack G : Nat → Nat → Nat}
/-- leaders are complete -/
theorem yLC (F : ySf N K L len lead E V C cl ack) (A : ∀ v, v < N → ySk N K S L len lead E V C cl ack G v) {T d : Nat} (hd : 1 ≤ d) (hL : L T d = T) (hm : yMost N K (fun o => decide (d ≤ ack o T))) : ∀ t, T < t → lead t ≠ 0 → yHas L (L t) (len t) T d := by
  intro t
  induction t using Nat.strongRecOn with
  | _ t ih =>
    intro hT hl
    obtain ⟨c, hc⟩ : ∃ c, lead t = c + 1 := ⟨lead t - 1, by omega⟩
    obtain ⟨⟨c1, c2, c3, c4, c5⟩, c6, c7, c8⟩ := F.2.2.2.1 t c hc
    obtain ⟨o, o1, o2, o3, o4⟩ := yMost_meet c7 hm
    simp at o3 o4
    have o5 := c8 o o1 o3
    obtain ⟨-, -, -, -, -, -, -, hB⟩ := A o o1
    rcases hB t c T d o5 (Or.inr o3) hT hd o4 hL with h | ⟨t', h1, h2, h3, h4⟩
    · refine ⟨?_, fun i hi => ?_⟩
      · have := h.1; omega
      · rw [c6 i (by have := h.1; omega)]
        exact h.2 i hi
    · exact absurd (ih t' h2 h1 h3) h4
/-- what is done agrees with the log of the leader of one's term -/
theorem yDone (F : ySf N K L len lead E V C cl ack) (A : ∀ v, v < N → ySk N K S L len lead E V C cl ack G v) {X : Nat → Nat} {t n : Nat} (hl : lead t ≠ 0) (h : yCP N K L len ack X t n) (h0 : X 0 = 0) : n ≤ len t ∧ ∀ i, i ≤ n → X i = L t i := by
  rcases h with rfl | ⟨T, d, h1, h2, h3, h4, h5, h6, h7⟩
  · refine ⟨Nat.zero_le _, fun i hi => ?_⟩
    rw [show i = 0 by omega, h0, F.1.1]
  · by_cases e : T = t
    · subst e
      exact ⟨by omega, h7⟩
    · obtain ⟨g1, g2⟩ := yLC F A h5 h4 h6 t (by omega) hl
      exact ⟨by omega, fun i hi => by rw [h7 i hi, g2 i (by omega)]⟩
theorem yCP_mono {K K' L L' : Nat → Nat → Nat} {len len' : Nat → Nat} {ack ack' : Nat → Nat → Nat} {X X' : Nat → Nat} {t t' n n' : Nat} (hK : ∀ o, o < N → K' o 0 = K o 0) (hL : ∀ T i, i ≤ len T → L' T i = L T i) (hl : ∀ T, len T ≤ len' T) (ha : ∀ o T, ack o T ≤ ack' o T) (hX : ∀ i, i ≤ n' → X' i = X i) (ht : t ≤ t') (hn : n' ≤ n) (h : yCP N K L len ack X t n) : yCP N K' L' len' ack' X' t' n' := by
  rcases h with rfl | ⟨T, d, h1, h2, h3, h4, h5, h6, h7⟩
  · exact Or.inl (by omega)
  · refine Or.inr ⟨T, d, by omega, by omega, Nat.le_trans h3 (hl T), ?_, h5, yMost_mono hK (fun o _ _ => ?_) h6, fun i hi => ?_⟩
    · rw [hL T d h3]; exact h4
    · simp only [decide_eq_true_eq]
      intro h; exact Nat.le_trans h (ha o T)
    · rw [hX i hi, h7 i (by omega), hL T i (by omega)]
theorem ySf_K (hK : ∀ o, o < N → K' o 0 = K o 0) (h2 : ∀ o, o < N → K o 2 ≤ K' o 2) (F : ySf N K L len lead E V C cl ack) : ySf N K' L len lead E V C cl ack := by
  obtain ⟨f0, f1, f2, f3, f4, f5, f6⟩ := F
  refine ⟨f0, f1, f2, fun t c h => ?_, fun t c h => ?_, fun t v c hv h => ?_, fun v T hv => ?_⟩
  · obtain ⟨⟨a1, a2, a3, a4⟩, a5, a6, a7⟩ := f3 t c h
    exact ⟨⟨a1, a2, Nat.le_trans a3 (h2 c a1), a4⟩, a5, yMost_mono hK (fun _ _ _ h => h) a6, a7⟩
  · obtain ⟨a1, a2, a3⟩ := f4 t c h
    exact ⟨a1, Nat.le_trans a2 (h2 c a1), a3⟩
  · rw [hK v hv]; exact f5 t v c hv h
  · exact ⟨(f6 v T hv).1, fun h => Nat.le_trans ((f6 v T hv).2 h) (h2 v hv)⟩
theorem ySk_K {u : Nat} (hK : ∀ o, o < N → K' o 0 = K o 0) (hu : ∀ f, K' u f = K u f) (hS : ∀ o, S' u o = S u o) (A : ySk N K S L len lead E V C cl ack G u) : ySk N K' S' L len lead E V C cl ack G u := by
  unfold ySk at A ⊢
  simp only [hu, hS]
  obtain ⟨a1, a2, a3, a4, a5, a6, a7, a8⟩ := A
  exact ⟨a1, a2, a3, a4, a5, yCP_mono hK (fun _ _ _ => rfl) (fun _ => Nat.le_refl _) (fun _ _ => Nat.le_refl _) (fun _ _ => rfl) (Nat.le_refl _) (Nat.le_refl _) a6, a7, a8⟩
/-- a keeper enters a later term -/
theorem yRaise {v t : Nat} (F : ySf N K L len lead E V C cl ack) (A : ∀ v, v < N → ySk N K S L len lead E V C cl ack G v) (hv : v < N) (ht : K v 2 < t) (hu : ∀ u f, u ≠ v → K' u f = K u f) (h2 : K' v 2 = t) (h3 : K' v 3 = 0) (h4 : K' v 4 = 0) (hf : ∀ f, f = 0 ∨ f = 5 ∨ f = 7 ∨ f = 8 → K' v f = K v f) : ySf N K' L len lead E V C cl ack ∧ ∀ v, v < N → ySk N K' S L len lead E V C cl ack G v := by
  have hK : ∀ o, o < N → K' o 0 = K o 0 := fun o _ => by
    by_cases e : o = v
    · subst e; exact hf 0 (by omega)
    · exact hu o 0 e
  have hK2 : ∀ o, o < N → K o 2 ≤ K' o 2 := fun o _ => by
    by_cases e : o = v
    · subst e; omega
    · rw [hu o 2 e]; omega
  refine ⟨ySf_K hK hK2 F, fun u hu' => ?_⟩
  by_cases e : u = v
  · subst e
    obtain ⟨a1, a2, a3, a4, a5, a6, a7, a8⟩ := A u hv
    unfold ySk
    rw [h2, h3, h4, hf 5 (by omega), hf 7 (by omega), hf 8 (by omega)]
    refine ⟨a1, fun n n1 n2 => ?_, ⟨a3.2 t ht, fun t' ht' => a3.2 t' (by omega)⟩, fun h => by omega, fun h => by omega, yCP_mono hK (fun _ _ _ => rfl) (fun _ => Nat.le_refl _) (fun _ _ => Nat.le_refl _) (fun _ _ => rfl) (by omega) (Nat.le_refl _) a6, fun T m m1 m2 m3 => ?_, a8⟩
    · obtain ⟨b1, b2, b3⟩ := a2 n n1 n2
      exact ⟨b1, by omega, b3⟩
    · rcases a7 T m m1 m2 m3 with h | ⟨t', b1, b2, b3⟩
      · exact Or.inl h
      · exact Or.inr ⟨t', b1, by omega, b3⟩
  · exact ySk_K hK (fun f => hu u f e) (fun _ => rfl) (A u hu')
/-- falls, folds, follows: the log stays, done may go back -/
theorem yQuiet {v : Nat} (F : ySf N K L len lead E V C cl ack) (A : ∀ v, v < N → ySk N K S L len lead E V C cl ack G v) (hu : ∀ u f, u ≠ v → K' u f = K u f) (hf : ∀ f, f = 0 ∨ f = 2 ∨ f = 3 ∨ f = 7 → K' v f = K v f) (h4 : K' v 4 = 0 ∨ (K' v 4 = K v 4 ∧ K' v 9 = K v 9)) (h5 : K' v 5 ≤ K' v 8) (h8 : K' v 8 ≤ K v 8) : ySf N K' L len lead E V C cl ack ∧ ∀ v, v < N → ySk N K' S L len lead E V C cl ack G v := by
  have hK : ∀ o, o < N → K' o 0 = K o 0 := fun o _ => by
    by_cases e : o = v
    · subst e; exact hf 0 (by omega)
    · exact hu o 0 e
  have hK2 : ∀ o, o < N → K o 2 ≤ K' o 2 := fun o _ => by
    by_cases e : o = v
    · subst e; rw [hf 2 (by omega)]; omega
    · rw [hu o 2 e]; omega
  refine ⟨ySf_K hK hK2 F, fun u hu' => ?_⟩
  by_cases e : u = v
  · subst e
    obtain ⟨a1, a2, a3, a4, a5, a6, a7, a8⟩ := A u hu'
    unfold ySk
    rw [hf 2 (by omega), hf 3 (by omega), hf 7 (by omega)]
    refine ⟨⟨h5, by omega, a1.2.2⟩, a2, a3, fun h => ?_, fun h => ?_, yCP_mono hK (fun _ _ _ => rfl) (fun _ => Nat.le_refl _) (fun _ _ => Nat.le_refl _) (fun _ _ => rfl) (by omega) h8 a6, a7, a8⟩
    · rcases h4 with h' | ⟨h', h9⟩
      · omega
      · rw [h9]; exact a4 (by omega)
    · rcases h4 with h' | ⟨h', h9⟩
      · omega
      · exact a5 (by omega)
  · exact ySk_K hK (fun f => hu u f e) (fun _ => rfl) (A u hu')
/-- done goes on -/
theorem yGo {v n : Nat} (F : ySf N K L len lead E V C cl ack) (A : ∀ v, v < N → ySk N K S L len lead E V C cl ack G v) (hu : ∀ u f, u ≠ v → K' u f = K u f) (hf : ∀ f, f ≠ 8 → K' v f = K v f) (h8 : K' v 8 = n) (h5 : K v 5 ≤ n) (h7 : n ≤ K v 7) (hc : yCP N K L len ack (G v) (K v 2) n) : ySf N K' L len lead E V C cl ack ∧ ∀ v, v < N → ySk N K' S L len lead E V C cl ack G v := by
  have hK : ∀ o, o < N → K' o 0 = K o 0 := fun o _ => by
    by_cases e : o = v
    · subst e; exact hf 0 (by omega)
    · exact hu o 0 e
  have hK2 : ∀ o, o < N → K o 2 ≤ K' o 2 := fun o _ => by
    by_cases e : o = v
    · subst e; rw [hf 2 (by omega)]; omega
    · rw [hu o 2 e]; omega
  refine ⟨ySf_K hK hK2 F, fun u hu' => ?_⟩
  by_cases e : u = v
  · subst e
    obtain ⟨a1, a2, a3, a4, a5, a6, a7, a8⟩ := A u hu'
    unfold ySk
    rw [hf 2 (by omega), hf 3 (by omega), hf 7 (by omega), hf 5 (by omega), hf 4 (by omega), hf 9 (by omega), h8]
    exact ⟨⟨h5, h7, a1.2.2⟩, a2, a3, a4, a5, yCP_mono hK (fun _ _ _ => rfl) (fun _ => Nat.le_refl _) (fun _ _ => Nat.le_refl _) (fun _ _ => rfl) (by omega) (Nat.le_refl _) hc, a7, a8⟩
  · exact ySk_K hK (fun f => hu u f e) (fun _ => rfl) (A u hu')
/-- a leader is sure of more -/
theorem ySure {v : Nat} (A : ∀ v, v < N → ySk N K S L len lead E V C cl ack G v) (hu : ∀ u o, u ≠ v → S' u o = S u o) (h : K v 4 = 2 → ∀ o, o < N → S' v o ≤ ack o (K v 2)) : ∀ v, v < N → ySk N K S' L len lead E V C cl ack G v := by
  intro u hu'
  by_cases e : u = v
  · subst e
    obtain ⟨a1, a2, a3, a4, a5, a6, a7, a8⟩ := A u hu'
    exact ⟨a1, a2, a3, a4, fun h4 => by
      obtain ⟨b1, b2, b3, b4, b5⟩ := a5 h4
      exact ⟨b1, b2, b3, b4, h h4⟩, a6, a7, a8⟩
  · exact ySk_K (fun _ _ => rfl) (fun f => rfl) (fun o => hu u o e) (A u hu')
/-- a ballot comes -/
theorem yBallot {v o : Nat} (F : ySf N K L len lead E V C cl ack) (A : ∀ v, v < N → ySk N K S L len lead E V C cl ack G v) (hu : ∀ u f, u ≠ v → K' u f = K u f) (hf : ∀ f, f ≠ 9 → K' v f = K v f) (h9 : ∀ j, (K' v 9).testBit j = true → (K v 9).testBit j = true ∨ j = o) (hV : V (K v 2) o = v + 1) : ySf N K' L len lead E V C cl ack ∧ ∀ v, v < N → ySk N K' S L len lead E V C cl ack G v := by
  have hK : ∀ o, o < N → K' o 0 = K o 0 := fun o _ => by
    by_cases e : o = v
    · subst e; exact hf 0 (by omega)
    · exact hu o 0 e
  have hK2 : ∀ o, o < N → K o 2 ≤ K' o 2 := fun o _ => by
    by_cases e : o = v
    · subst e; rw [hf 2 (by omega)]; omega
    · rw [hu o 2 e]; omega
  refine ⟨ySf_K hK hK2 F, fun u hu' => ?_⟩
  by_cases e : u = v
  · subst e
    obtain ⟨a1, a2, a3, a4, a5, a6, a7, a8⟩ := A u hu'
    unfold ySk
    rw [hf 2 (by omega), hf 3 (by omega), hf 7 (by omega), hf 5 (by omega), hf 4 (by omega), hf 8 (by omega)]
    refine ⟨a1, a2, a3, fun h => ?_, a5, yCP_mono hK (fun _ _ _ => rfl) (fun _ => Nat.le_refl _) (fun _ _ => Nat.le_refl _) (fun _ _ => rfl) (by omega) (Nat.le_refl _) a6, a7, a8⟩
    obtain ⟨b1, b2, b3, b4, b5⟩ := a4 h
    refine ⟨b1, b2, b3, b4, fun j j1 j2 => ?_⟩
    rcases h9 j j2 with h' | rfl
    · exact b5 j j1 h'
    · exact hV
  · exact ySk_K hK (fun f => hu u f e) (fun _ => rfl) (A u hu')
/-- the ghosts go on: nothing that was there is changed -/
def yExt (L : Nat → Nat → Nat) (len lead : Nat → Nat) (V : Nat → Nat → Nat) (C : Nat → Nat → Nat → Nat) (cl ack : Nat → Nat → Nat) (L' : Nat → Nat → Nat) (len' lead' : Nat → Nat) (V' : Nat → Nat → Nat) (C' : Nat → Nat → Nat → Nat) (cl' ack' : Nat → Nat → Nat) : Prop :=
  (∀ t n, n ≤ len t → L' t n = L t n) ∧ (∀ t, len t ≤ len' t) ∧ (∀ t, lead t ≠ 0 → lead' t = lead t) ∧ (∀ t v, V t v ≠ 0 → V' t v = V t v) ∧ (∀ t c, cl t c ≠ 0 → cl' t c = cl t c ∧ ∀ n, C' t c n = C t c n) ∧ ∀ v T, ack v T ≤ ack' v T
theorem yExt_rfl : yExt L len lead V C cl ack L len lead V C cl ack := ⟨fun _ _ _ => rfl, fun _ => Nat.le_refl _, fun _ _ => rfl, fun _ _ _ => rfl, fun _ _ _ => ⟨rfl, fun _ => rfl⟩, fun _ _ => Nat.le_refl _⟩
/-- a keeper asks: its next term, its own vote -/
theorem yStand {v t : Nat} (F : ySf N K L len lead E V C cl ack) (A : ∀ v, v < N → ySk N K S L len lead E V C cl ack G v) (hv : v < N) (ht : t = K v 2 + 1) (h0 : K v 0 ≠ 0) (hu : ∀ u f, u ≠ v → K' u f = K u f) (h2 : K' v 2 = t) (h3 : K' v 3 = v + 1) (h4 : K' v 4 = 1) (h9 : ∀ j, (K' v 9).testBit j = true → j = v) (hf : ∀ f, f = 0 ∨ f = 5 ∨ f = 7 ∨ f = 8 → K' v f = K v f) :
    ∃ V' C' cl', ySf N K' L len lead E V' C' cl' ack ∧ (∀ v, v < N → ySk N K' S L len lead E V' C' cl' ack G v) ∧ yExt L len lead V C cl ack L len lead V' C' cl' ack ∧ cl' t v = K v 7 + 1 ∧ C' t v (K v 7) = G v (K v 7) := by
  have hK : ∀ o, o < N → K' o 0 = K o 0 := fun o _ => by
    by_cases e : o = v
    · subst e; exact hf 0 (by omega)
    · exact hu o 0 e
  have hK2 : ∀ o, o < N → K o 2 ≤ K' o 2 := fun o _ => by
    by_cases e : o = v
    · subst e; omega
    · rw [hu o 2 e]; omega
  obtain ⟨f0, f1, f2, f3, f4, f5, f6⟩ := F
  have hcl : cl t v = 0 := by
    by_cases e : cl t v = 0
    · exact e
    · have := (f4 t v e).2.1; omega
  have hVt : V t v = 0 := (A v hv).2.2.1.2 t (by omega)
  have hlt : lead t ≠ v + 1 := fun h => by have := (f3 t v h).1.2.2.1; omega
  refine ⟨fun t' u => if t' = t ∧ u = v then v + 1 else V t' u, fun t' c n => if t' = t ∧ c = v then G v n else C t' c n, fun t' c => if t' = t ∧ c = v then K v 7 + 1 else cl t' c, ⟨⟨f0.1, fun t' c => ?_, f0.2.2⟩, f1, f2, fun t' c h => ?_, fun t' c h => ?_, fun t' u c hu' h => ?_, fun u T hu' => ⟨(f6 u T hu').1, fun h => Nat.le_trans ((f6 u T hu').2 h) (hK2 u hu')⟩⟩, fun u hu' => ?_, ⟨fun _ _ _ => rfl, fun _ => Nat.le_refl _, fun _ _ => rfl, fun t' u h => ?_, fun t' c h => ?_, fun _ _ => Nat.le_refl _⟩, if_pos ⟨rfl, rfl⟩, if_pos ⟨rfl, rfl⟩⟩
  · by_cases e : t' = t ∧ c = v
    · show (if t' = t ∧ c = v then G v 0 else C t' c 0) = 0
      rw [if_pos e]; exact (A v hv).1.2.2
    · show (if t' = t ∧ c = v then G v 0 else C t' c 0) = 0
      rw [if_neg e]; exact f0.2.1 t' c
  · obtain ⟨⟨a1, a2, a3, a4⟩, a5, a6, a7⟩ := f3 t' c h
    have e : ¬ (t' = t ∧ c = v) := fun e => by
      rw [e.1, e.2] at h; exact hlt h
    simp only [if_neg e]
    refine ⟨⟨a1, a2, Nat.le_trans a3 (hK2 c a1), a4⟩, a5, yMost_mono hK (fun _ _ _ h => h) a6, fun o o1 o2 => ?_⟩
    have e2 : ¬ (t' = t ∧ o = v) := fun e2 => by
      have := a7 o o1 o2
      rw [e2.1, e2.2, hVt] at this
      omega
    rw [if_neg e2]; exact a7 o o1 o2
  · by_cases e : t' = t ∧ c = v
    · simp only [if_pos e]
      rw [e.1, e.2]
      refine ⟨hv, by omega, fun n n1 n2 => ?_⟩
      have := (A v hv).2.1 n n1 (by omega)
      rw [show t - 1 = K v 2 by omega]
      exact this
    · simp only [if_neg e] at h ⊢
      obtain ⟨a1, a2, a3⟩ := f4 t' c h
      exact ⟨a1, Nat.le_trans a2 (hK2 c a1), a3⟩
  · have h : (if t' = t ∧ u = v then v + 1 else V t' u) = c + 1 := h
    show (if t' = t ∧ c = v then K v 7 + 1 else cl t' c) ≠ 0 ∧ K' u 0 ≠ 0
    rw [hK u hu']
    by_cases e : t' = t ∧ u = v
    · rw [if_pos e] at h
      rw [if_pos ⟨e.1, by omega⟩, e.2]
      exact ⟨by omega, h0⟩
    · rw [if_neg e] at h
      obtain ⟨a1, a2⟩ := f5 t' u c hu' h
      refine ⟨?_, a2⟩
      by_cases e2 : t' = t ∧ c = v
      · rw [if_pos e2]; omega
      · rw [if_neg e2]; exact a1
  · by_cases e : u = v
    · subst e
      obtain ⟨a1, a2, a3, a4, a5, a6, a7, a8⟩ := A u hu'
      unfold ySk
      rw [h2, h3, h4, hf 5 (by omega), hf 7 (by omega), hf 8 (by omega)]
      refine ⟨a1, fun n n1 n2 => ?_, ⟨if_pos ⟨rfl, rfl⟩, fun t' ht' => ?_⟩, fun _ => ⟨if_pos ⟨rfl, rfl⟩, if_pos ⟨rfl, rfl⟩, fun n _ => if_pos ⟨rfl, rfl⟩, hlt, fun o o1 o2 => ?_⟩, fun h => by omega, yCP_mono hK (fun _ _ _ => rfl) (fun _ => Nat.le_refl _) (fun _ _ => Nat.le_refl _) (fun _ _ => rfl) (by omega) (Nat.le_refl _) a6, fun T m m1 m2 m3 => ?_, fun t' c T m hV hl hT m1 m2 m3 => ?_⟩
      · obtain ⟨b1, b2, b3⟩ := a2 n n1 n2
        exact ⟨b1, by omega, b3⟩
      · show (if t' = t ∧ u = u then u + 1 else V t' u) = 0
        rw [if_neg (by omega)]; exact a3.2 t' (by omega)
      · rw [h9 o o2]
        exact if_pos ⟨rfl, rfl⟩
      · rcases a7 T m m1 m2 m3 with h | ⟨t', b1, b2, b3⟩
        · exact Or.inl h
        · exact Or.inr ⟨t', b1, by omega, b3⟩
      · have hV : (if t' = t ∧ u = u then u + 1 else V t' u) = c + 1 := hV
        by_cases e : t' = t
        · subst e
          rw [if_pos ⟨rfl, rfl⟩] at hV
          have ec : c = u := by omega
          subst ec
          simp only [if_true, and_self]
          rcases a7 T m m1 m2 m3 with h | ⟨t2, b1, b2, b3⟩
          · exact Or.inl ⟨by have := h.1; omega, h.2⟩
          · exact Or.inr ⟨t2, b1, by omega, b3⟩
        · rw [if_neg (fun h => e h.1)] at hV
          simp only [e, false_and, if_false]
          exact a8 t' c T m hV hl hT m1 m2 m3
    · have B := ySk_K (S' := S) hK (fun f => hu u f e) (fun _ => rfl) (A u hu')
      obtain ⟨a1, a2, a3, a4, a5, a6, a7, a8⟩ := B
      have eV : ∀ t', (if t' = t ∧ u = v then v + 1 else V t' u) = V t' u := fun t' => if_neg (fun h => e h.2)
      have eC : ∀ t' n, (if t' = t ∧ u = v then G v n else C t' u n) = C t' u n := fun t' n => if_neg (fun h => e h.2)
      have eK : ∀ t', (if t' = t ∧ u = v then K v 7 + 1 else cl t' u) = cl t' u := fun t' => if_neg (fun h => e h.2)
      refine ⟨a1, a2, ⟨by show (if K' u 2 = t ∧ u = v then v + 1 else V (K' u 2) u) = K' u 3; rw [eV]; exact a3.1, fun t' ht' => by show (if t' = t ∧ u = v then v + 1 else V t' u) = 0; rw [eV]; exact a3.2 t' ht'⟩, fun h => ?_, a5, a6, a7, fun t' c T m hV hl hT m1 m2 m3 => ?_⟩
      · obtain ⟨b1, b2, b3, b4, b5⟩ := a4 h
        refine ⟨?_, ?_, fun n hn => ?_, b4, fun o o1 o2 => ?_⟩
        · show (if K' u 2 = t ∧ u = v then v + 1 else V (K' u 2) u) = u + 1
          rw [eV]; exact b1
        · show (if K' u 2 = t ∧ u = v then K v 7 + 1 else cl (K' u 2) u) = K' u 7 + 1
          rw [eK]; exact b2
        · show (if K' u 2 = t ∧ u = v then G v n else C (K' u 2) u n) = G u n
          rw [eC]; exact b3 n hn
        · show (if K' u 2 = t ∧ o = v then v + 1 else V (K' u 2) o) = u + 1
          have b6 := b5 o o1 o2
          rw [if_neg (fun h => by rw [h.1, h.2, hVt] at b6; omega)]; exact b6
      · have hV : (if t' = t ∧ u = v then v + 1 else V t' u) = c + 1 := hV
        rw [eV] at hV
        have hc : cl t' c ≠ 0 := (f5 t' u c hu' hV).1
        have e3 : ¬ (t' = t ∧ c = v) := fun h => by rw [h.1, h.2] at hc; exact hc hcl
        simp only [if_neg e3]
        exact a8 t' c T m hV hl hT m1 m2 m3
  · show (if t' = t ∧ u = v then v + 1 else V t' u) = V t' u
    rw [if_neg (fun e => by rw [e.1, e.2] at h; exact h hVt)]
  · have e3 : ¬ (t' = t ∧ c = v) := fun e => by rw [e.1, e.2] at h; exact h hcl
    exact ⟨if_neg e3, fun n => if_neg e3⟩
/-- a log that has as much as the one of who asks: then the latter has it too -/
theorem yAhead {v t c T m : Nat} (F : ySf N K L len lead E V C cl ack) (A : ySk N K S L len lead E V C cl ack G v) (hc : cl t c ≠ 0) (ho : G v (K v 7) < C t c (cl t c - 1) ∨ (G v (K v 7) = C t c (cl t c - 1) ∧ K v 7 ≤ cl t c - 1)) (m1 : 1 ≤ m) (hL : L T m = T) (h : yHas L (G v) (K v 7) T m) : yHas L (C t c) (cl t c - 1) T m ∨ ∃ t', T < t' ∧ t' < t ∧ yBad L len lead T m t' := by
  obtain ⟨f0, f1, f2, f3, f4, f5, f6⟩ := F
  obtain ⟨h1, h2⟩ := h
  obtain ⟨g1, g2, g3, g4, g5⟩ := A.2.1 (K v 7) (by omega) (Nat.le_refl _)
  have eT : G v m = T := by rw [h2 m (Nat.le_refl m)]; exact hL
  have mono : T ≤ G v (K v 7) := by
    have q1 := f2 (G v (K v 7)) m (K v 7) h1 g4
    rw [← g5 m h1, ← g5 (K v 7) (Nat.le_refl _), eT] at q1
    exact q1
  have hcl1 : 1 ≤ cl t c - 1 := by
    by_cases e : cl t c - 1 = 0
    · rw [e, f0.2.1] at ho; omega
    · omega
  obtain ⟨c1, c2, c3, c4, c5⟩ := (f4 t c hc).2.2 (cl t c - 1) hcl1 (by omega)
  rcases ho with ho | ⟨ho, ho2⟩
  · by_cases hb : yHas L (L (C t c (cl t c - 1))) (len (C t c (cl t c - 1))) T m
    · left
      have lt : m < cl t c - 1 := by
        by_cases e : m < cl t c - 1
        · exact e
        · exfalso
          have q1 := f2 (C t c (cl t c - 1)) (cl t c - 1) m (by omega) hb.1
          rw [← c5 (cl t c - 1) (Nat.le_refl _), hb.2 m (Nat.le_refl m), hL] at q1
          omega
      exact ⟨by omega, fun i hi => by rw [c5 i (by omega)]; exact hb.2 i hi⟩
    · exact Or.inr ⟨C t c (cl t c - 1), by omega, by omega, c3, hb⟩
  · left
    refine ⟨by omega, fun i hi => ?_⟩
    rw [c5 i (by omega), ← ho, ← g5 i (by omega)]
    exact h2 i hi
/-- a keeper votes -/
theorem yVote {v t c : Nat} (F : ySf N K L len lead E V C cl ack) (A : ∀ v, v < N → ySk N K S L len lead E V C cl ack G v) (hv : v < N) (ht : t = K v 2) (h0 : K v 0 ≠ 0) (hc : cl t c ≠ 0) (hfree : K v 3 = 0 ∨ K v 3 = c + 1) (ho : G v (K v 7) < C t c (cl t c - 1) ∨ (G v (K v 7) = C t c (cl t c - 1) ∧ K v 7 ≤ cl t c - 1)) (hu : ∀ u f, u ≠ v → K' u f = K u f) (h3 : K' v 3 = c + 1) (hf : ∀ f, f ≠ 3 → K' v f = K v f) :
    ∃ V', ySf N K' L len lead E V' C cl ack ∧ (∀ v, v < N → ySk N K' S L len lead E V' C cl ack G v) ∧ yExt L len lead V C cl ack L len lead V' C cl ack ∧ V' t v = c + 1 := by
  have hK : ∀ o, o < N → K' o 0 = K o 0 := fun o _ => by
    by_cases e : o = v
    · subst e; exact hf 0 (by omega)
    · exact hu o 0 e
  have hK2 : ∀ o, o < N → K o 2 ≤ K' o 2 := fun o _ => by
    by_cases e : o = v
    · subst e; rw [hf 2 (by omega)]; omega
    · rw [hu o 2 e]; omega
  have hVt : V t v = 0 ∨ V t v = c + 1 := by
    rw [ht, (A v hv).2.2.1.1]; exact hfree
  have old : ∀ t' u, V t' u ≠ 0 → (if t' = t ∧ u = v then c + 1 else V t' u) = V t' u := fun t' u h => by
    by_cases e : t' = t ∧ u = v
    · rw [if_pos e]
      rw [e.1, e.2] at h ⊢
      omega
    · rw [if_neg e]
  have F' := ySf_K hK hK2 F
  obtain ⟨f0, f1, f2, f3, f4, f5, f6⟩ := F'
  refine ⟨fun t' u => if t' = t ∧ u = v then c + 1 else V t' u, ⟨f0, f1, f2, fun t' c' h => ?_, f4, fun t' u c' hu' h => ?_, f6⟩, fun u hu' => ?_, ⟨fun _ _ _ => rfl, fun _ => Nat.le_refl _, fun _ _ => rfl, old, fun _ _ _ => ⟨rfl, fun _ => rfl⟩, fun _ _ => Nat.le_refl _⟩, if_pos ⟨rfl, rfl⟩⟩
  · obtain ⟨a1, a5, a6, a7⟩ := f3 t' c' h
    exact ⟨a1, a5, a6, fun o o1 o2 => by
      show (if t' = t ∧ o = v then c + 1 else V t' o) = c' + 1
      rw [old t' o (by rw [a7 o o1 o2]; omega)]; exact a7 o o1 o2⟩
  · have h : (if t' = t ∧ u = v then c + 1 else V t' u) = c' + 1 := h
    by_cases e : t' = t ∧ u = v
    · rw [if_pos e] at h
      rw [e.1, show c' = c by omega, e.2, hK v hv]
      exact ⟨hc, h0⟩
    · rw [if_neg e] at h
      exact f5 t' u c' hu' h
  · by_cases e : u = v
    · subst e
      obtain ⟨a1, a2, a3, a4, a5, a6, a7, a8⟩ := A u hu'
      unfold ySk
      rw [h3, hf 2 (by omega), hf 7 (by omega), hf 5 (by omega), hf 4 (by omega), hf 8 (by omega), hf 9 (by omega)]
      refine ⟨a1, a2, ⟨if_pos ⟨ht.symm, rfl⟩, fun t' ht' => ?_⟩, fun h => ?_, a5, yCP_mono hK (fun _ _ _ => rfl) (fun _ => Nat.le_refl _) (fun _ _ => Nat.le_refl _) (fun _ _ => rfl) (by omega) (Nat.le_refl _) a6, a7, fun t' c' T m hV hl hT m1 m2 m3 => ?_⟩
      · show (if t' = t ∧ u = u then c + 1 else V t' u) = 0
        rw [if_neg (by omega)]; exact a3.2 t' ht'
      · obtain ⟨b1, b2, b3, b4, b5⟩ := a4 h
        refine ⟨?_, b2, b3, b4, fun o o1 o2 => ?_⟩
        · exact (old _ _ (by omega)).trans b1
        · have b6 := b5 o o1 o2
          exact (old _ _ (by omega)).trans b6
      · have hV : (if t' = t ∧ u = u then c + 1 else V t' u) = c' + 1 := hV
        by_cases e : t' = t ∧ V t u = 0
        · obtain ⟨rfl, e0⟩ := e
          rw [if_pos ⟨rfl, rfl⟩] at hV
          have ec : c' = c := by omega
          subst ec
          have hl0 : lead t' = 0 := by
            rcases hl with h | h
            · exact h
            · by_cases e2 : lead t' = 0
              · exact e2
              · obtain ⟨x, hx⟩ : ∃ x, lead t' = x + 1 := ⟨lead t' - 1, by omega⟩
                have := (f3 t' x hx).2.2.2 u hu' h
                omega
          rcases a7 T m m1 m2 m3 with h | ⟨t2, b1, b2, b3⟩
          · exact yAhead F (A u hu') hc ho m1 m3 h
          · refine Or.inr ⟨t2, b1, ?_, b3⟩
            by_cases e2 : t2 = t'
            · subst e2; exact absurd hl0 b3.1
            · omega
        · have hV2 : V t' u = c' + 1 := by
            by_cases e1 : t' = t
            · subst e1
              rw [if_pos ⟨rfl, rfl⟩] at hV
              have : V t' u ≠ 0 := fun h => e ⟨rfl, h⟩
              omega
            · rw [if_neg (fun h => e1 h.1)] at hV
              exact hV
          exact a8 t' c' T m hV2 hl hT m1 m2 m3
    · obtain ⟨a1, a2, a3, a4, a5, a6, a7, a8⟩ := ySk_K (S' := S) hK (fun f => hu u f e) (fun _ => rfl) (A u hu')
      have eV : ∀ t', (if t' = t ∧ u = v then c + 1 else V t' u) = V t' u := fun t' => if_neg (fun h => e h.2)
      refine ⟨a1, a2, ⟨(eV _).trans a3.1, fun t' ht' => (eV _).trans (a3.2 t' ht')⟩, fun h => ?_, a5, a6, a7, fun t' c' T m hV => a8 t' c' T m ((eV t').symm.trans hV)⟩
      obtain ⟨b1, b2, b3, b4, b5⟩ := a4 h
      exact ⟨(eV _).trans b1, b2, b3, b4, fun o o1 o2 => (old _ _ (by have := b5 o o1 o2; omega)).trans (b5 o o1 o2)⟩
theorem yHas_L {L' : Nat → Nat → Nat} {X : Nat → Nat} {lx T m : Nat} (h : ∀ i, i ≤ m → L' T i = L T i) : yHas L' X lx T m ↔ yHas L X lx T m := by
  unfold yHas
  exact ⟨fun q => ⟨q.1, fun i hi => by rw [q.2 i hi, h i hi]⟩, fun q => ⟨q.1, fun i hi => by rw [q.2 i hi, h i hi]⟩⟩
/-- one who asked is chosen -/
theorem yLead {v t : Nat} (F : ySf N K L len lead E V C cl ack) (A : ∀ v, v < N → ySk N K S L len lead E V C cl ack G v) (hv : v < N) (ht : t = K v 2) (hr : K v 4 = 1) (h1t : 1 ≤ t) (hm : yMost N K (fun o => (K v 9).testBit o)) (hu : ∀ u f, u ≠ v → K' u f = K u f) (h4 : K' v 4 = 2) (hf : ∀ f, f = 0 ∨ f = 2 ∨ f = 3 ∨ f = 5 ∨ f = 7 ∨ f = 8 → K' v f = K v f) (hS : ∀ u o, u ≠ v → S' u o = S u o) (hS0 : ∀ o, o < N → S' v o = 0) :
    ∃ L' len' lead' E' ack', ySf N K' L' len' lead' E' V C cl ack' ∧ (∀ v, v < N → ySk N K' S' L' len' lead' E' V C cl ack' G v) ∧ yExt L len lead V C cl ack L' len' lead' V C cl ack' := by
  have hK : ∀ o, o < N → K' o 0 = K o 0 := fun o _ => by
    by_cases e : o = v
    · subst e; exact hf 0 (by omega)
    · exact hu o 0 e
  have hK2 : ∀ o, o < N → K' o 2 = K o 2 := fun o _ => by
    by_cases e : o = v
    · subst e; exact hf 2 (by omega)
    · exact hu o 2 e
  obtain ⟨f0, f1, f2, f3, f4, f5, f6⟩ := F
  obtain ⟨v1, v2, v3, v4, v5, v6, v7, v8⟩ := A v hv
  obtain ⟨r1, r2, r3, r4, r5⟩ := v4 hr
  rw [← ht] at r1 r2 r3 r4 r5
  -- nobody leads yet
  have hl0 : lead t = 0 := by
    by_cases e : lead t = 0
    · exact e
    · obtain ⟨x, hx⟩ : ∃ x, lead t = x + 1 := ⟨lead t - 1, by omega⟩
      obtain ⟨a1, a2, a3, a4⟩ := f3 t x hx
      obtain ⟨o, o1, o2, o3, o4⟩ := yMost_meet a3 hm
      simp at o3
      have q1 := a4 o o1 o3
      have q2 := r5 o o1 o4
      exact absurd (by rw [hx]; omega) r4
  have hlen0 : len t = 0 := f0.2.2 t hl0
  have hack0 : ∀ u, u < N → ack u t = 0 := fun u hu' => by have := (f6 u t hu').1; omega
  -- the log's terms are below t
  have hlow : ∀ n, 1 ≤ n → n ≤ K v 7 → G v n < t := fun n n1 n2 => by
    have q := (f4 t v (by omega)).2.2 n n1 (by omega)
    have q1 := q.1
    have q2 := q.2.1
    rw [r3 n n2] at q1 q2
    omega
  have eL : ∀ T i, T ≠ t → (if T = t then G v i else L T i) = L T i := fun T i h => if_neg h
  have lmX : ∀ (X : Nat → Nat) (b n : Nat), yLM L len lead X b n → yLM (fun T i => if T = t then G v i else L T i) (fun T => if T = t then K v 7 else len T) (fun T => if T = t then v + 1 else lead T) X b n := fun X b n h => by
    have hne : X n ≠ t := fun e => by
      have := h.2.2.1
      rw [e] at this
      exact this hl0
    refine ⟨h.1, h.2.1, ?_, ?_, fun m hm => ?_⟩
    · show (if X n = t then v + 1 else lead (X n)) ≠ 0
      rw [if_neg hne]; exact h.2.2.1
    · show n ≤ (if X n = t then K v 7 else len (X n))
      rw [if_neg hne]; exact h.2.2.2.1
    · show X m = (if X n = t then G v m else L (X n) m)
      rw [if_neg hne]; exact h.2.2.2.2 m hm
  have gmono : ∀ m n, m ≤ n → n ≤ K v 7 → G v m ≤ G v n := fun m n h1 h2 => by
    by_cases n0 : n = 0
    · rw [show m = n by omega]; exact Nat.le_refl _
    · obtain ⟨g1, g2, g3, g4, g5⟩ := v2 n (by omega) h2
      have q := f2 (G v n) m n h1 g4
      rw [← g5 m h1, ← g5 n (Nat.le_refl n)] at q
      exact q
  have hasX : ∀ (X : Nat → Nat) (lx T m : Nat), T ≠ t → yHas L X lx T m → yHas (fun T i => if T = t then G v i else L T i) X lx T m := fun X lx T m hT h => ⟨h.1, fun i hi => by
    show X i = (if T = t then G v i else L T i)
    rw [if_neg hT]; exact h.2 i hi⟩
  have badX : ∀ T m t', T ≠ t → yBad L len lead T m t' → yBad (fun T i => if T = t then G v i else L T i) (fun T => if T = t then K v 7 else len T) (fun T => if T = t then v + 1 else lead T) T m t' := fun T m t' hT h => by
    have hne : t' ≠ t := fun e => by
      have := h.1
      rw [e] at this
      exact this hl0
    refine ⟨?_, fun h2 => h.2 ?_⟩
    · show (if t' = t then v + 1 else lead t') ≠ 0
      rw [if_neg hne]; exact h.1
    · have h21 : m ≤ (if t' = t then K v 7 else len t') := h2.1
      have h22 : ∀ i, i ≤ m → (if t' = t then G v i else L t' i) = (if T = t then G v i else L T i) := h2.2
      rw [if_neg hne] at h21
      exact ⟨h21, fun i hi => by have := h22 i hi; rw [if_neg hne, if_neg hT] at this; exact this⟩
  have ackT : ∀ u T, u < N → 0 < ack u T → T ≠ t := fun u T hu' h e => by rw [e, hack0 u hu'] at h; omega
  refine ⟨fun T i => if T = t then G v i else L T i, fun T => if T = t then K v 7 else len T, fun T => if T = t then v + 1 else lead T, fun T o => if T = t then (if (K v 9).testBit o then 1 else 0) else E T o, fun u T => if u = v ∧ T = t then K v 7 else ack u T, ⟨⟨fun T => ?_, f0.2.1, fun T h => ?_⟩, fun T n n1 n2 => ?_, fun T m n m1 n2 => ?_, fun T c h => ?_, fun T c h => ?_, fun T u c hu' h => ?_, fun u T hu' => ?_⟩, fun u hu' => ?_, ⟨fun T n hn => ?_, fun T => ?_, fun T h => ?_, fun _ _ _ => rfl, fun _ _ _ => ⟨rfl, fun _ => rfl⟩, fun u T => ?_⟩⟩
  · show (if T = t then G v 0 else L T 0) = 0
    by_cases e : T = t
    · rw [if_pos e]; exact v1.2.2
    · rw [if_neg e]; exact f0.1 T
  · have h : (if T = t then v + 1 else lead T) = 0 := h
    show (if T = t then K v 7 else len T) = 0
    by_cases e : T = t
    · rw [if_pos e] at h; omega
    · rw [if_neg e] at h ⊢; exact f0.2.2 T h
  · have n2 : n ≤ (if T = t then K v 7 else len T) := n2
    by_cases e : T = t
    · subst e
      rw [if_pos rfl] at n2
      have := lmX (G v) (K v 2) n (v2 n n1 n2)
      rw [← ht] at this
      simp only [if_true]
      exact this
    · rw [if_neg e] at n2
      simp only [if_neg e]
      exact lmX (L T) T n (f1 T n n1 n2)
  · have n2 : n ≤ (if T = t then K v 7 else len T) := n2
    show (if T = t then G v m else L T m) ≤ (if T = t then G v n else L T n)
    by_cases e : T = t
    · rw [if_pos e] at n2
      rw [if_pos e, if_pos e]
      exact gmono m n m1 n2
    · rw [if_neg e] at n2
      rw [if_neg e, if_neg e]
      exact f2 T m n m1 n2
  · have h : (if T = t then v + 1 else lead T) = c + 1 := h
    by_cases e : T = t
    · subst e
      rw [if_pos rfl] at h
      have ec : c = v := by omega
      subst ec
      simp only [if_true]
      refine ⟨⟨hv, h1t, by rw [hK2 c hv]; omega, by omega, by omega⟩, fun n hn => ?_, yMost_mono hK (fun o _ _ ho => ?_) hm, fun o o1 o2 => ?_⟩
      · exact (r3 n (by omega)).symm
      · simp [ho]
      · by_cases e2 : (K c 9).testBit o = true
        · exact r5 o o1 e2
        · rw [if_neg e2] at o2; exact absurd rfl o2
    · rw [if_neg e] at h
      simp only [if_neg e]
      obtain ⟨⟨a1, a2, a3, a4⟩, a5, a6, a7⟩ := f3 T c h
      exact ⟨⟨a1, a2, by rw [hK2 c a1]; exact a3, a4⟩, a5, yMost_mono hK (fun _ _ _ h => h) a6, a7⟩
  · obtain ⟨a1, a2, a3⟩ := f4 T c h
    exact ⟨a1, by rw [hK2 c a1]; exact a2, fun n n1 n2 => lmX _ _ _ (a3 n n1 n2)⟩
  · rw [hK u hu']; exact f5 T u c hu' h
  · show (if u = v ∧ T = t then K v 7 else ack u T) ≤ (if T = t then K v 7 else len T) ∧ (0 < (if u = v ∧ T = t then K v 7 else ack u T) → T ≤ K' u 2)
    rw [hK2 u hu']
    by_cases e : u = v ∧ T = t
    · rw [if_pos e, if_pos e.2, e.1, e.2]
      exact ⟨Nat.le_refl _, fun _ => by omega⟩
    · rw [if_neg e]
      obtain ⟨b1, b2⟩ := f6 u T hu'
      refine ⟨?_, b2⟩
      by_cases e2 : T = t
      · rw [if_pos e2, e2, hack0 u hu']; exact Nat.zero_le _
      · rw [if_neg e2]; exact b1
  · -- keepers
    obtain ⟨a1, a2, a3, a4, a5, a6, a7, a8⟩ := A u hu'
    have cpX : yCP N K' (fun T i => if T = t then G v i else L T i) (fun T => if T = t then K v 7 else len T) (fun u T => if u = v ∧ T = t then K v 7 else ack u T) (G u) (K u 2) (K u 8) := by
      refine yCP_mono hK (fun T i hi => ?_) (fun T => ?_) (fun o T => ?_) (fun _ _ => rfl) (Nat.le_refl _) (Nat.le_refl _) a6
      · by_cases e : T = t
        · rw [if_pos e, e]
          rw [e, hlen0] at hi
          rw [show i = 0 by omega, v1.2.2, f0.1]
        · rw [if_neg e]
      · by_cases e : T = t
        · rw [if_pos e, e, hlen0]; exact Nat.zero_le _
        · rw [if_neg e]; exact Nat.le_refl _
      · by_cases e : o = v ∧ T = t
        · rw [if_pos e, e.1, e.2, hack0 v hv]; exact Nat.zero_le _
        · rw [if_neg e]; exact Nat.le_refl _
    have kA : ∀ T m, 1 ≤ m → m ≤ (if u = v ∧ T = t then K v 7 else ack u T) → (if T = t then G v m else L T m) = T → yHas (fun T i => if T = t then G v i else L T i) (G u) (K u 7) T m ∨ ∃ t', T < t' ∧ t' ≤ K u 2 ∧ yBad (fun T i => if T = t then G v i else L T i) (fun T => if T = t then K v 7 else len T) (fun T => if T = t then v + 1 else lead T) T m t' := fun T m m1 m2 m3 => by
      by_cases e : T = t
      · exfalso
        by_cases e2 : u = v
        · rw [if_pos ⟨e2, e⟩] at m2
          rw [if_pos e] at m3
          have := hlow m m1 m2
          omega
        · rw [if_neg (fun h => e2 h.1), e, hack0 u hu'] at m2
          omega
      · rw [if_neg (fun h => e h.2)] at m2
        rw [if_neg e] at m3
        rcases a7 T m m1 m2 m3 with h | ⟨t', b1, b2, b3⟩
        · exact Or.inl (hasX _ _ _ _ e h)
        · exact Or.inr ⟨t', b1, b2, badX _ _ _ e b3⟩
    have kB : ∀ t' c T m, V t' u = c + 1 → ((if t' = t then v + 1 else lead t') = 0 ∨ (if t' = t then (if (K v 9).testBit u then 1 else 0) else E t' u) ≠ 0) → T < t' → 1 ≤ m → m ≤ (if u = v ∧ T = t then K v 7 else ack u T) → (if T = t then G v m else L T m) = T → yHas (fun T i => if T = t then G v i else L T i) (C t' c) (cl t' c - 1) T m ∨ ∃ t2, T < t2 ∧ t2 < t' ∧ yBad (fun T i => if T = t then G v i else L T i) (fun T => if T = t then K v 7 else len T) (fun T => if T = t then v + 1 else lead T) T m t2 := fun t' c T m hV hl hT m1 m2 m3 => by
      by_cases e : T = t
      · exfalso
        by_cases e2 : u = v
        · rw [if_pos ⟨e2, e⟩] at m2
          rw [if_pos e] at m3
          have := hlow m m1 m2
          omega
        · rw [if_neg (fun h => e2 h.1), e, hack0 u hu'] at m2
          omega
      · rw [if_neg (fun h => e h.2)] at m2
        rw [if_neg e] at m3
        have hl' : lead t' = 0 ∨ E t' u ≠ 0 := by
          by_cases e3 : t' = t
          · left; rw [e3]; exact hl0
          · rw [if_neg e3, if_neg e3] at hl; exact hl
        rcases a8 t' c T m hV hl' hT m1 m2 m3 with h | ⟨t2, b1, b2, b3⟩
        · exact Or.inl (hasX _ _ _ _ e h)
        · exact Or.inr ⟨t2, b1, b2, badX _ _ _ e b3⟩
    by_cases e : u = v
    · subst e
      unfold ySk
      rw [h4, hf 2 (by omega), hf 3 (by omega), hf 5 (by omega), hf 7 (by omega), hf 8 (by omega)]
      refine ⟨a1, fun n n1 n2 => lmX _ _ _ (a2 n n1 n2), a3, fun h => by omega, fun _ => ?_, cpX, kA, kB⟩
      rw [← ht]
      exact ⟨if_pos rfl, (if_pos rfl).symm, fun n _ => (if_pos rfl).symm, (if_pos ⟨rfl, rfl⟩).trans (if_pos rfl).symm, fun o ho => by rw [hS0 o ho]; exact Nat.zero_le _⟩
    · unfold ySk
      rw [hu u 2 e, hu u 3 e, hu u 4 e, hu u 5 e, hu u 7 e, hu u 8 e, hu u 9 e]
      refine ⟨a1, fun n n1 n2 => lmX _ _ _ (a2 n n1 n2), a3, fun h => ?_, fun h => ?_, cpX, kA, kB⟩
      · obtain ⟨b1, b2, b3, b4, b5⟩ := a4 h
        refine ⟨b1, b2, b3, ?_, b5⟩
        show (if K u 2 = t then v + 1 else lead (K u 2)) ≠ u + 1
        by_cases e2 : K u 2 = t
        · rw [if_pos e2]; omega
        · rw [if_neg e2]; exact b4
      · obtain ⟨b1, b2, b3, b4, b5⟩ := a5 h
        have e2 : K u 2 ≠ t := fun e2 => by rw [e2, hl0] at b1; omega
        simp only [if_neg e2, e, false_and, if_false]
        refine ⟨b1, b2, b3, b4, fun o ho => ?_⟩
        rw [hS u o e, if_neg (fun h => e2 h.2)]
        exact b5 o ho
  · show (if T = t then G v n else L T n) = L T n
    by_cases e : T = t
    · rw [if_pos e, e]
      rw [e, hlen0] at hn
      rw [show n = 0 by omega, v1.2.2, f0.1]
    · rw [if_neg e]
  · show len T ≤ (if T = t then K v 7 else len T)
    by_cases e : T = t
    · rw [if_pos e, e, hlen0]; exact Nat.zero_le _
    · rw [if_neg e]; exact Nat.le_refl _
  · show (if T = t then v + 1 else lead T) = lead T
    rw [if_neg (fun e => by rw [e] at h; exact h hl0)]
  · show ack u T ≤ (if u = v ∧ T = t then K v 7 else ack u T)
    by_cases e : u = v ∧ T = t
    · rw [if_pos e, e.1, e.2, hack0 v hv]; exact Nat.zero_le _
    · rw [if_neg e]; exact Nat.le_refl _
/-- a follower's log changes as the leader of its term says -/
theorem yLog {v t : Nat} {G' : Nat → Nat → Nat} (F : ySf N K L len lead E V C cl ack) (A : ∀ v, v < N → ySk N K S L len lead E V C cl ack G v) (ht : t = K v 2) (h4 : K v 4 = 0) (hu : ∀ u f, u ≠ v → K' u f = K u f) (hf : ∀ f, f = 0 ∨ f = 2 ∨ f = 3 ∨ f = 4 → K' v f = K v f) (hG : ∀ u n, u ≠ v → G' u n = G u n) (h5 : K' v 5 ≤ K' v 8) (h8 : K' v 8 ≤ K' v 7) (h0 : G' v 0 = 0) (hl : lead t ≠ 0) (hlm : ∀ n, 1 ≤ n → n ≤ K' v 7 → yLM L len lead (G' v) t n) (hc : yCP N K L len ack (G' v) t (K' v 8)) (hk : ∀ m, 1 ≤ m → m ≤ K v 7 → (m ≤ K' v 7 ∧ ∀ i, i ≤ m → G' v i = G v i) ∨ ∃ i, i ≤ m ∧ (len t < i ∨ L t i ≠ G v i)) : ySf N K' L len lead E V C cl ack ∧ ∀ v, v < N → ySk N K' S L len lead E V C cl ack G' v := by
  have hK : ∀ o, o < N → K' o 0 = K o 0 := fun o _ => by
    by_cases e : o = v
    · subst e; exact hf 0 (by omega)
    · exact hu o 0 e
  have hK2 : ∀ o, o < N → K o 2 ≤ K' o 2 := fun o _ => by
    by_cases e : o = v
    · subst e; rw [hf 2 (by omega)]; omega
    · rw [hu o 2 e]; omega
  refine ⟨ySf_K hK hK2 F, fun u hu' => ?_⟩
  by_cases e : u = v
  · subst e
    obtain ⟨a1, a2, a3, a4, a5, a6, a7, a8⟩ := A u hu'
    unfold ySk
    rw [hf 2 (by omega), hf 3 (by omega), hf 4 (by omega), ← ht]
    rw [← ht] at a3
    refine ⟨⟨h5, h8, h0⟩, hlm, a3, fun h => by omega, fun h => by omega, yCP_mono hK (fun _ _ _ => rfl) (fun _ => Nat.le_refl _) (fun _ _ => Nat.le_refl _) (fun _ _ => rfl) (Nat.le_refl _) (Nat.le_refl _) hc, fun T m m1 m2 m3 => ?_, a8⟩
    rcases a7 T m m1 m2 m3 with h | ⟨t', b1, b2, b3⟩
    · rcases hk m m1 h.1 with ⟨k1, k2⟩ | ⟨i, k1, k2⟩
      · exact Or.inl ⟨k1, fun i hi => by rw [k2 i hi]; exact h.2 i hi⟩
      · have ha := F.2.2.2.2.2.2 u T hu'
        have hT : T ≠ t := fun e => by
          subst e
          rcases k2 with k2 | k2
          · omega
          · exact k2 (h.2 i k1).symm
        refine Or.inr ⟨t, ?_, Nat.le_refl t, hl, fun hh => ?_⟩
        · have := ha.2 (by omega)
          omega
        · rcases k2 with k2 | k2
          · have := hh.1; omega
          · exact k2 (by rw [hh.2 i k1, h.2 i k1])
    · exact Or.inr ⟨t', b1, by omega, b3⟩
  · have B := ySk_K (S' := S) hK (fun f => hu u f e) (fun _ => rfl) (A u hu')
    have eG : G' u = G u := funext fun n => hG u n e
    unfold ySk at B ⊢
    rw [eG]
    exact B
/-- a follower answers how far its log is the leader's -/
theorem yAck {v t n : Nat} (F : ySf N K L len lead E V C cl ack) (A : ∀ v, v < N → ySk N K S L len lead E V C cl ack G v) (ht : t = K v 2) (h4 : K v 4 ≠ 2) (hn : n ≤ len t) (h7 : n ≤ K v 7) (hG : ∀ i, i ≤ n → G v i = L t i) :
    ∃ ack', ySf N K L len lead E V C cl ack' ∧ (∀ v, v < N → ySk N K S L len lead E V C cl ack' G v) ∧ yExt L len lead V C cl ack L len lead V C cl ack' ∧ n ≤ ack' v t := by
  have hmono : ∀ o T, ack o T ≤ (if o = v ∧ T = t then max (ack v t) n else ack o T) := fun o T => by
    by_cases e : o = v ∧ T = t
    · rw [if_pos e, e.1, e.2]; exact Nat.le_max_left _ _
    · rw [if_neg e]; exact Nat.le_refl _
  obtain ⟨f0, f1, f2, f3, f4, f5, f6⟩ := F
  refine ⟨fun o T => if o = v ∧ T = t then max (ack v t) n else ack o T, ⟨f0, f1, f2, f3, f4, f5, fun u T hu' => ?_⟩, fun u hu' => ?_, ⟨fun _ _ _ => rfl, fun _ => Nat.le_refl _, fun _ _ => rfl, fun _ _ _ => rfl, fun _ _ _ => ⟨rfl, fun _ => rfl⟩, hmono⟩, ?_⟩
  · show (if u = v ∧ T = t then max (ack v t) n else ack u T) ≤ len T ∧ (0 < (if u = v ∧ T = t then max (ack v t) n else ack u T) → T ≤ K u 2)
    by_cases e : u = v ∧ T = t
    · rw [if_pos e]
      obtain ⟨rfl, rfl⟩ := e
      have := (f6 u T hu').1
      exact ⟨by omega, fun _ => by omega⟩
    · rw [if_neg e]; exact f6 u T hu'
  · obtain ⟨a1, a2, a3, a4, a5, a6, a7, a8⟩ := A u hu'
    refine ⟨a1, a2, a3, a4, fun h => ?_, yCP_mono (fun _ _ => rfl) (fun _ _ _ => rfl) (fun _ => Nat.le_refl _) hmono (fun _ _ => rfl) (Nat.le_refl _) (Nat.le_refl _) a6, fun T m m1 m2 m3 => ?_, fun t' c T m hV hl hT m1 m2 m3 => ?_⟩
    · obtain ⟨b1, b2, b3, b4, b5⟩ := a5 h
      refine ⟨b1, b2, b3, ?_, fun o ho => Nat.le_trans (b5 o ho) (hmono _ _)⟩
      show (if u = v ∧ K u 2 = t then max (ack v t) n else ack u (K u 2)) = len (K u 2)
      rw [if_neg (fun e => by rw [e.1] at h; exact h4 h)]
      exact b4
    · have m2 : m ≤ (if u = v ∧ T = t then max (ack v t) n else ack u T) := m2
      by_cases e : u = v ∧ T = t
      · rw [if_pos e] at m2
        obtain ⟨rfl, rfl⟩ := e
        by_cases e2 : m ≤ ack u T
        · exact a7 T m m1 e2 m3
        · exact Or.inl ⟨by omega, fun i hi => hG i (by omega)⟩
      · rw [if_neg e] at m2
        exact a7 T m m1 m2 m3
    · have m2 : m ≤ (if u = v ∧ T = t then max (ack v t) n else ack u T) := m2
      have e : ¬ (u = v ∧ T = t) := fun e => by
        obtain ⟨rfl, rfl⟩ := e
        have := a3.2 t' (by omega)
        omega
      rw [if_neg e] at m2
      exact a8 t' c T m hV hl hT m1 m2 m3
  · show n ≤ (if v = v ∧ t = t then max (ack v t) n else ack v t)
    rw [if_pos ⟨rfl, rfl⟩]
    exact Nat.le_max_right _ _
/-- a leader takes a command -/
theorem yGrow {v t : Nat} (F : ySf N K L len lead E V C cl ack) (A : ∀ v, v < N → ySk N K S L len lead E V C cl ack G v) (hv : v < N) (ht : t = K v 2) (h4 : K v 4 = 2) (hu : ∀ u f, u ≠ v → K' u f = K u f) (h7 : K' v 7 = K v 7 + 1) (hf : ∀ f, f ≠ 7 → K' v f = K v f) :
    ∃ L' len' ack', ySf N K' L' len' lead E V C cl ack' ∧ (∀ u, u < N → ySk N K' S L' len' lead E V C cl ack' (fun u n => if u = v ∧ n = K v 7 + 1 then t else G u n) u) ∧ yExt L len lead V C cl ack L' len' lead V C cl ack' := by
  have hK : ∀ o, o < N → K' o 0 = K o 0 := fun o _ => by
    by_cases e : o = v
    · subst e; exact hf 0 (by omega)
    · exact hu o 0 e
  have hK2 : ∀ o, o < N → K' o 2 = K o 2 := fun o _ => by
    by_cases e : o = v
    · subst e; rw [hf 2 (by omega)]
    · rw [hu o 2 e]
  obtain ⟨f0, f1, f2, f3, f4, f5, f6⟩ := F
  obtain ⟨v1, v2, v3, v4, v5, v6, v7, v8⟩ := A v hv
  obtain ⟨r1, r2, r3, r4, r5⟩ := v5 h4
  rw [← ht] at r1 r2 r3 r4 r5
  obtain ⟨⟨l1, l2, l3, l4, l5⟩, l6, l7, l8⟩ := f3 t v r1
  have eL : ∀ T i, i ≤ len T → (if T = t ∧ i = len t + 1 then t else L T i) = L T i := fun T i h => if_neg (fun e => by rw [e.1] at h; omega)
  have elen : ∀ T, len T ≤ (if T = t then len t + 1 else len T) := fun T => by
    by_cases e : T = t
    · rw [if_pos e, e]; omega
    · rw [if_neg e]; exact Nat.le_refl _
  have eack : ∀ o T, ack o T ≤ (if o = v ∧ T = t then len t + 1 else ack o T) := fun o T => by
    by_cases e : o = v ∧ T = t
    · rw [if_pos e, e.1, e.2]; omega
    · rw [if_neg e]; exact Nat.le_refl _
  have lmX : ∀ (X X' : Nat → Nat) (b n : Nat), (∀ m, m ≤ n → X' m = X m) → yLM L len lead X b n → yLM (fun T i => if T = t ∧ i = len t + 1 then t else L T i) (fun T => if T = t then len t + 1 else len T) lead X' b n := fun X X' b n hX h => by
    obtain ⟨h1, h2, h3, h4, h5⟩ := h
    unfold yLM
    rw [hX n (Nat.le_refl n)]
    refine ⟨h1, h2, h3, Nat.le_trans h4 (elen _), fun m hm => ?_⟩
    show X' m = (if X n = t ∧ m = len t + 1 then t else L (X n) m)
    rw [eL _ _ (by omega), hX m hm]
    exact h5 m hm
  have hasX : ∀ (X X' : Nat → Nat) (lx lx' T m : Nat), m ≤ len T → (∀ i, i ≤ m → X' i = X i) → lx ≤ lx' → yHas L X lx T m → yHas (fun T i => if T = t ∧ i = len t + 1 then t else L T i) X' lx' T m := fun X X' lx lx' T m hm hX hlx h => ⟨Nat.le_trans h.1 hlx, fun i hi => by
    show X' i = (if T = t ∧ i = len t + 1 then t else L T i)
    rw [eL _ _ (by omega), hX i hi]
    exact h.2 i hi⟩
  have badX : ∀ T m t', m ≤ len T → L T m = T → T < t' → yBad L len lead T m t' → yBad (fun T i => if T = t ∧ i = len t + 1 then t else L T i) (fun T => if T = t then len t + 1 else len T) lead T m t' := fun T m t' hm hL hT h => by
    refine ⟨h.1, fun h2 => h.2 ?_⟩
    have h21 : m ≤ (if t' = t then len t + 1 else len t') := h2.1
    have h22 : ∀ i, i ≤ m → (if t' = t ∧ i = len t + 1 then t else L t' i) = (if T = t ∧ i = len t + 1 then t else L T i) := h2.2
    have hml : m ≤ len t' := by
      by_cases e : t' = t
      · rw [if_pos e] at h21
        by_cases e2 : m = len t + 1
        · exfalso
          have q := h22 m (Nat.le_refl m)
          rw [if_pos ⟨e, e2⟩, eL T m hm, hL] at q
          omega
        · rw [e]; omega
      · rw [if_neg e] at h21; exact h21
    refine ⟨hml, fun i hi => ?_⟩
    have q := h22 i hi
    rw [eL t' i (by omega), eL T i (by omega)] at q
    exact q
  refine ⟨fun T i => if T = t ∧ i = len t + 1 then t else L T i, fun T => if T = t then len t + 1 else len T, fun o T => if o = v ∧ T = t then len t + 1 else ack o T, ⟨⟨fun T => ?_, f0.2.1, fun T h => ?_⟩, fun T n n1 n2 => ?_, fun T m n m1 n2 => ?_, fun T c h => ?_, fun T c h => ?_, fun T u c hu' h => ?_, fun u T hu' => ?_⟩, fun u hu' => ?_, ⟨eL, elen, fun _ _ => rfl, fun _ _ _ => rfl, fun _ _ _ => ⟨rfl, fun _ => rfl⟩, eack⟩⟩
  · show (if T = t ∧ 0 = len t + 1 then t else L T 0) = 0
    rw [if_neg (by omega)]; exact f0.1 T
  · show (if T = t then len t + 1 else len T) = 0
    rw [if_neg (fun e => by rw [e, r1] at h; omega)]; exact f0.2.2 T h
  · have n2 : n ≤ (if T = t then len t + 1 else len T) := n2
    by_cases e : T = t ∧ n = len t + 1
    · obtain ⟨rfl, rfl⟩ := e
      unfold yLM
      simp only [and_self, if_true]
      exact ⟨l2, Nat.le_refl _, by omega, Nat.le_refl _, fun m _ => trivial⟩
    · have n3 : n ≤ len T := by
        by_cases e2 : T = t
        · rw [if_pos e2] at n2
          have : n ≠ len t + 1 := fun h => e ⟨e2, h⟩
          rw [e2]; omega
        · rw [if_neg e2] at n2; exact n2
      exact lmX (L T) _ T n (fun m hm => eL T m (by omega)) (f1 T n n1 n3)
  · have n2 : n ≤ (if T = t then len t + 1 else len T) := n2
    show (if T = t ∧ m = len t + 1 then t else L T m) ≤ (if T = t ∧ n = len t + 1 then t else L T n)
    by_cases e : T = t ∧ n = len t + 1
    · rw [if_pos e]
      by_cases e2 : m = len t + 1
      · rw [if_pos ⟨e.1, e2⟩]; exact Nat.le_refl _
      · rw [if_neg (fun h => e2 h.2), e.1]
        by_cases m0 : m = 0
        · rw [m0, f0.1]; exact Nat.zero_le _
        · exact (f1 t m (by omega) (by omega)).2.1
    · have n3 : n ≤ len T := by
        by_cases e2 : T = t
        · rw [if_pos e2] at n2
          have : n ≠ len t + 1 := fun h => e ⟨e2, h⟩
          rw [e2]; omega
        · rw [if_neg e2] at n2; exact n2
      rw [if_neg e, eL T m (by omega)]
      exact f2 T m n m1 n3
  · obtain ⟨⟨a1, a2, a3, a4, a5⟩, a6, a7, a8⟩ := f3 T c h
    refine ⟨⟨a1, a2, by rw [hK2 c a1]; exact a3, a4, Nat.le_trans a5 (Nat.succ_le_succ (elen T))⟩, fun n hn => ?_, yMost_mono hK (fun _ _ _ h => h) a7, a8⟩
    show (if T = t ∧ n = len t + 1 then t else L T n) = C T c n
    rw [eL T n (by omega)]; exact a6 n hn
  · obtain ⟨a1, a2, a3⟩ := f4 T c h
    exact ⟨a1, by rw [hK2 c a1]; exact a2, fun n n1 n2 => lmX _ _ _ _ (fun _ _ => rfl) (a3 n n1 n2)⟩
  · rw [hK u hu']; exact f5 T u c hu' h
  · show (if u = v ∧ T = t then len t + 1 else ack u T) ≤ (if T = t then len t + 1 else len T) ∧ (0 < (if u = v ∧ T = t then len t + 1 else ack u T) → T ≤ K' u 2)
    rw [hK2 u hu']
    by_cases e : u = v ∧ T = t
    · rw [if_pos e, if_pos e.2, e.1, e.2]
      exact ⟨Nat.le_refl _, fun _ => by omega⟩
    · rw [if_neg e]
      exact ⟨Nat.le_trans (f6 u T hu').1 (elen T), (f6 u T hu').2⟩
  · obtain ⟨a1, a2, a3, a4, a5, a6, a7, a8⟩ := A u hu'
    have eG : ∀ n, (u = v → n ≤ K v 7) → (if u = v ∧ n = K v 7 + 1 then t else G u n) = G u n := fun n h => if_neg (fun e => by have := h e.1; omega)
    have cpX : yCP N K' (fun T i => if T = t ∧ i = len t + 1 then t else L T i) (fun T => if T = t then len t + 1 else len T) (fun o T => if o = v ∧ T = t then len t + 1 else ack o T) (fun n => if u = v ∧ n = K v 7 + 1 then t else G u n) (K u 2) (K u 8) :=
      yCP_mono hK eL elen eack (fun i hi => eG i (fun e => by rw [← e]; omega)) (Nat.le_refl _) (Nat.le_refl _) a6
    have k2 : ∀ n, 1 ≤ n → n ≤ K' u 7 → yLM (fun T i => if T = t ∧ i = len t + 1 then t else L T i) (fun T => if T = t then len t + 1 else len T) lead (fun n => if u = v ∧ n = K v 7 + 1 then t else G u n) (K u 2) n := fun n n1 n2 => by
      by_cases e : u = v ∧ n = K v 7 + 1
      · obtain ⟨rfl, rfl⟩ := e
        unfold yLM
        simp only [and_self, if_true, true_and, ← ht]
        refine ⟨l2, Nat.le_refl _, by omega, by omega, fun m hm => ?_⟩
        by_cases e2 : m = K u 7 + 1
        · rw [if_pos e2, if_pos (by omega)]
        · rw [if_neg e2, if_neg (by omega)]
          exact r3 m (by omega)
      · have n3 : n ≤ K u 7 := by
          by_cases e2 : u = v
          · subst e2
            rw [h7] at n2
            have : n ≠ K u 7 + 1 := fun h => e ⟨rfl, h⟩
            omega
          · rw [hu u 7 e2] at n2; exact n2
        exact lmX (G u) _ _ n (fun m hm => eG m (fun e2 => by rw [← e2]; omega)) (a2 n n1 n3)
    have h7le : K u 7 ≤ K' u 7 := by
      by_cases e : u = v
      · subst e; omega
      · rw [hu u 7 e]; exact Nat.le_refl _
    have kA : ∀ T m, 1 ≤ m → m ≤ (if u = v ∧ T = t then len t + 1 else ack u T) → (if T = t ∧ m = len t + 1 then t else L T m) = T → yHas (fun T i => if T = t ∧ i = len t + 1 then t else L T i) (fun n => if u = v ∧ n = K v 7 + 1 then t else G u n) (K' u 7) T m ∨ ∃ t', T < t' ∧ t' ≤ K u 2 ∧ yBad (fun T i => if T = t ∧ i = len t + 1 then t else L T i) (fun T => if T = t then len t + 1 else len T) lead T m t' := fun T m m1 m2 m3 => by
      by_cases e : u = v ∧ T = t
      · obtain ⟨rfl, rfl⟩ := e
        rw [if_pos ⟨rfl, rfl⟩] at m2
        left
        refine ⟨by omega, fun i hi => ?_⟩
        show (if u = u ∧ i = K u 7 + 1 then T else G u i) = (if T = T ∧ i = len T + 1 then T else L T i)
        by_cases e2 : i = K u 7 + 1
        · rw [if_pos ⟨rfl, e2⟩, if_pos ⟨rfl, by omega⟩]
        · rw [if_neg (fun h => e2 h.2), if_neg (by omega)]
          exact r3 i (by omega)
      · rw [if_neg e] at m2
        have ml := (f6 u T hu').1
        rw [eL T m (by omega)] at m3
        rcases a7 T m m1 m2 m3 with h | ⟨t', b1, b2, b3⟩
        · exact Or.inl (hasX (G u) _ _ _ T m (by omega) (fun i hi => eG i (fun e2 => by have := h.1; rw [← e2]; omega)) h7le h)
        · exact Or.inr ⟨t', b1, b2, badX T m t' (by omega) m3 b1 b3⟩
    have kB : ∀ t' c T m, V t' u = c + 1 → (lead t' = 0 ∨ E t' u ≠ 0) → T < t' → 1 ≤ m → m ≤ (if u = v ∧ T = t then len t + 1 else ack u T) → (if T = t ∧ m = len t + 1 then t else L T m) = T → yHas (fun T i => if T = t ∧ i = len t + 1 then t else L T i) (C t' c) (cl t' c - 1) T m ∨ ∃ t2, T < t2 ∧ t2 < t' ∧ yBad (fun T i => if T = t ∧ i = len t + 1 then t else L T i) (fun T => if T = t then len t + 1 else len T) lead T m t2 := fun t' c T m hV hl hT m1 m2 m3 => by
      have e : ¬ (u = v ∧ T = t) := fun e => by
        obtain ⟨rfl, rfl⟩ := e
        have := a3.2 t' (by omega)
        omega
      rw [if_neg e] at m2
      have ml := (f6 u T hu').1
      rw [eL T m (by omega)] at m3
      rcases a8 t' c T m hV hl hT m1 m2 m3 with h | ⟨t2, b1, b2, b3⟩
      · exact Or.inl (hasX (C t' c) _ _ _ T m (by omega) (fun _ _ => rfl) (Nat.le_refl _) h)
      · exact Or.inr ⟨t2, b1, b2, badX T m t2 (by omega) m3 b1 b3⟩
    have hf' : ∀ f, f ≠ 7 → K' u f = K u f := fun f h => by
      by_cases e : u = v
      · subst e; exact hf f h
      · exact hu u f e
    unfold ySk
    rw [hf' 2 (by omega), hf' 3 (by omega), hf' 4 (by omega), hf' 5 (by omega), hf' 8 (by omega), hf' 9 (by omega)]
    refine ⟨⟨a1.1, by omega, (eG 0 (fun _ => Nat.zero_le _)).trans a1.2.2⟩, k2, a3, fun h => ?_, fun h => ?_, cpX, kA, kB⟩
    · have e : u ≠ v := fun e => by rw [e] at h; omega
      obtain ⟨b1, b2, b3, b4, b5⟩ := a4 h
      rw [hu u 7 e]
      exact ⟨b1, b2, fun n hn => (b3 n hn).trans (eG n (fun h => absurd h e)).symm, b4, b5⟩
    · by_cases e : u = v
      · subst e
        rw [← ht, h7]
        refine ⟨r1, ?_, fun n hn => ?_, ?_, fun o ho => Nat.le_trans (r5 o ho) (eack o t)⟩
        · show K u 7 + 1 = (if t = t then len t + 1 else len t)
          rw [if_pos rfl]; omega
        · show (if u = u ∧ n = K u 7 + 1 then t else G u n) = (if t = t ∧ n = len t + 1 then t else L t n)
          by_cases e2 : n = K u 7 + 1
          · rw [if_pos ⟨rfl, e2⟩, if_pos ⟨rfl, by omega⟩]
          · rw [if_neg (fun h => e2 h.2), if_neg (by omega)]
            exact r3 n (by omega)
        · exact (if_pos ⟨rfl, rfl⟩).trans (if_pos rfl).symm
      · obtain ⟨b1, b2, b3, b4, b5⟩ := a5 h
        have e2 : K u 2 ≠ t := fun e2 => by rw [e2, r1] at b1; omega
        rw [hu u 7 e]
        refine ⟨b1, ?_, fun n hn => ?_, ?_, fun o ho => Nat.le_trans (b5 o ho) (eack o _)⟩
        · show K u 7 = (if K u 2 = t then len t + 1 else len (K u 2))
          rw [if_neg e2]; exact b2
        · show (if u = v ∧ n = K v 7 + 1 then t else G u n) = (if K u 2 = t ∧ n = len t + 1 then t else L (K u 2) n)
          rw [if_neg (fun h => e h.1), if_neg (fun h => e2 h.1)]
          exact b3 n hn
        · show (if u = v ∧ K u 2 = t then len t + 1 else ack u (K u 2)) = (if K u 2 = t then len t + 1 else len (K u 2))
          rw [if_neg (fun h => e h.1), if_neg e2]
          exact b4
/-- what a letter says: f its parts (kind and one more, 0 none), g the terms of its entries -/
def yLt (N : Nat) (K L : Nat → Nat → Nat) (len lead : Nat → Nat) (V : Nat → Nat → Nat) (C : Nat → Nat → Nat → Nat) (cl ack : Nat → Nat → Nat) (f g : Nat → Nat) : Prop :=
  f 0 ≤ 5 ∧ (f 0 ≠ 0 → f 1 < N ∧ f 2 < N) ∧
  (f 0 = 1 → cl (f 3) (f 1) = f 4 + 1 ∧ C (f 3) (f 1) (f 4) = f 5) ∧
  (f 0 = 2 → f 4 ≤ 1 ∧ (f 4 = 1 → V (f 3) (f 1) = f 2 + 1)) ∧
  (f 0 = 3 → lead (f 3) ≠ 0 ∧ f 4 + f 6 ≤ len (f 3) ∧ f 6 ≤ 5 ∧ f 5 = L (f 3) (f 4) ∧ (∀ i, i < f 6 → g i = L (f 3) (f 4 + 1 + i)) ∧ yCP N K L len ack (L (f 3)) (f 3) (f 7)) ∧
  (f 0 = 4 → f 4 ≤ 1 ∧ (f 4 = 1 → f 5 ≤ ack (f 1) (f 3))) ∧
  (f 0 = 5 → lead (f 3) ≠ 0 ∧ f 4 ≤ len (f 3) ∧ f 5 = L (f 3) (f 4) ∧ yCP N K L len ack (L (f 3)) (f 3) (f 4))
theorem yLt_mono {L' : Nat → Nat → Nat} {len' lead' : Nat → Nat} {V' : Nat → Nat → Nat} {C' : Nat → Nat → Nat → Nat} {cl' ack' : Nat → Nat → Nat} {f g : Nat → Nat} (hK : ∀ o, o < N → K' o 0 = K o 0) (X : yExt L len lead V C cl ack L' len' lead' V' C' cl' ack') (F : ySf N K L len lead E V C cl ack) (A : ∀ v, v < N → ySk N K S L len lead E V C cl ack G v) (h : yLt N K L len lead V C cl ack f g) : yLt N K' L' len' lead' V' C' cl' ack' f g := by
  obtain ⟨x1, x2, x3, x4, x5, x6⟩ := X
  obtain ⟨h0, h1, h2, h3, h4, h5, h6⟩ := h
  have cp : ∀ t n, lead t ≠ 0 → yCP N K L len ack (L t) t n → yCP N K' L' len' ack' (L' t) t n := fun t n hl h => by
    have hd := yDone F A hl h (F.1.1 t)
    exact yCP_mono hK x1 x2 x6 (fun i hi => x1 t i (by omega)) (Nat.le_refl _) (Nat.le_refl _) h
  refine ⟨h0, h1, fun e => ?_, fun e => ?_, fun e => ?_, fun e => ?_, fun e => ?_⟩
  · obtain ⟨a1, a2⟩ := h2 e
    obtain ⟨b1, b2⟩ := x5 (f 3) (f 1) (by omega)
    exact ⟨by rw [b1]; exact a1, by rw [b2]; exact a2⟩
  · obtain ⟨a1, a2⟩ := h3 e
    exact ⟨a1, fun e1 => by rw [x4 _ _ (by rw [a2 e1]; omega)]; exact a2 e1⟩
  · obtain ⟨a1, a2, a3, a4, a5, a6⟩ := h4 e
    exact ⟨by rw [x3 _ a1]; exact a1, Nat.le_trans a2 (x2 _), a3, by rw [x1 _ _ (by omega)]; exact a4, fun i hi => by rw [x1 _ _ (by omega)]; exact a5 i hi, cp _ _ a1 a6⟩
  · obtain ⟨a1, a2⟩ := h5 e
    exact ⟨a1, fun e1 => Nat.le_trans (a2 e1) (x6 _ _)⟩
  · obtain ⟨a1, a2, a3, a4⟩ := h6 e
    exact ⟨by rw [x3 _ a1]; exact a1, Nat.le_trans a2 (x2 _), by rw [x1 _ _ a2]; exact a3, cp _ _ a1 a4⟩
end ySafe
