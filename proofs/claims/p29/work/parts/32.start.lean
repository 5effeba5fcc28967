/-- a new world's rows and addresses -/
def zw_H (E : zE) (w : Nat) (f : Nat → Nat) (ρ : zS) : Prop := (∀ q i : Nat, q < 30 → z_ad E (q, w, i) = f (z_enc (q, w, i))) ∧ (∀ q i : Nat, q < 30 → q ≠ 20 → ρ.1 (q, w, i) = fun _ => 0) ∧ ∀ i : Nat, ρ.1 (20, w, i) = fun k => if k = 0 then -1 else 0
def zw_c (E : zE) (ρ : zS) (a : zJ) : Nat × va_E := (z_ad E a, z_cell E (ρ.1 a) (ρ.2 a) a)
theorem zw_c0 {E : zE} {w : Nat} {f : Nat → Nat} {ρ : zS} (hz : zw_H E w f ρ) : zw_c E ρ (0, w, 0) = (f (0), .inr (7, [.ref (f (1)), .ref (f (2)), .ref (f (4)), .int 0, .int 0])) := by
  unfold zw_c
  rw [z_c0, hz.2.1 0 0 (by decide) (by decide), hz.1 0 0 (by decide), hz.1 1 0 (by decide), hz.1 2 0 (by decide), hz.1 4 0 (by decide)]
  rfl
theorem zw_c1 {E : zE} {w : Nat} {f : Nat → Nat} {ρ : zS} (hz : zw_H E w f ρ) : zw_c E ρ (1, w, 0) = (f (1), .inl (z_cy E 4, 7, .inr (.inr (.inr (.inr (fun j => some (f (10 + 10 * j + 0)))))))) := by
  unfold zw_c
  rw [z_c1, hz.1 1 0 (by decide), show (fun j => some (z_ad E (10, w, j))) = (fun j => some (f (10 + 10 * j + 0))) from funext fun j => congrArg some (hz.1 10 j (by decide))]
  rfl
theorem zw_c2 {E : zE} {w : Nat} {f : Nat → Nat} {ρ : zS} (hz : zw_H E w f ρ) : zw_c E ρ (2, w, 0) = (f (2), .inr (3, [.ref (f (3)), .ref (f (80 + 4 * 40 + 0))])) := by
  unfold zw_c
  rw [z_c2, hz.1 2 0 (by decide), hz.1 3 0 (by decide), hz.1 20 40 (by decide)]
  rfl
theorem zw_c3 {E : zE} {w : Nat} {f : Nat → Nat} {ρ : zS} (hz : zw_H E w f ρ) : zw_c E ρ (3, w, 0) = (f (3), .inl (z_cy E 5, 40, .inr (.inr (.inr (.inr (fun j => some (f (80 + 4 * j + 0)))))))) := by
  unfold zw_c
  rw [z_c3, hz.1 3 0 (by decide), show (fun j => some (z_ad E (20, w, j))) = (fun j => some (f (80 + 4 * j + 0))) from funext fun j => congrArg some (hz.1 20 j (by decide))]
  rfl
theorem zw_c4 {E : zE} {w : Nat} {f : Nat → Nat} {ρ : zS} (hz : zw_H E w f ρ) : zw_c E ρ (4, w, 0) = (f (4), .inr (4, [.ref (f (5)), .ref (f (6)), .ref (f (7)), .ref (f (8)), .int 0])) := by
  unfold zw_c
  rw [z_c4, hz.2.1 4 0 (by decide) (by decide), hz.1 4 0 (by decide), hz.1 5 0 (by decide), hz.1 6 0 (by decide), hz.1 7 0 (by decide), hz.1 8 0 (by decide)]
  rfl
theorem zw_c5 {E : zE} {w : Nat} {f : Nat → Nat} {ρ : zS} (hz : zw_H E w f ρ) : zw_c E ρ (5, w, 0) = (f (5), .inl (z_cy E 0, 40, .inl (fun _ => 0))) := by
  unfold zw_c
  rw [z_c5, hz.2.1 5 0 (by decide) (by decide), hz.1 5 0 (by decide)]
  rfl
theorem zw_c6 {E : zE} {w : Nat} {f : Nat → Nat} {ρ : zS} (hz : zw_H E w f ρ) : zw_c E ρ (6, w, 0) = (f (6), .inl (z_cy E 0, 40, .inl (fun _ => 0))) := by
  unfold zw_c
  rw [z_c6, hz.2.1 6 0 (by decide) (by decide), hz.1 6 0 (by decide)]
  rfl
theorem zw_c7 {E : zE} {w : Nat} {f : Nat → Nat} {ρ : zS} (hz : zw_H E w f ρ) : zw_c E ρ (7, w, 0) = (f (7), .inl (z_cy E 0, 40, .inl (fun _ => 0))) := by
  unfold zw_c
  rw [z_c7, hz.2.1 7 0 (by decide) (by decide), hz.1 7 0 (by decide)]
  rfl
theorem zw_c8 {E : zE} {w : Nat} {f : Nat → Nat} {ρ : zS} (hz : zw_H E w f ρ) : zw_c E ρ (8, w, 0) = (f (8), .inl (z_cy E 0, 40, .inl (fun _ => 0))) := by
  unfold zw_c
  rw [z_c8, hz.2.1 8 0 (by decide) (by decide), hz.1 8 0 (by decide)]
  rfl
theorem zw_c10 {E : zE} {w : Nat} {f : Nat → Nat} {ρ : zS} (hz : zw_H E w f ρ) (i : Nat) : zw_c E ρ (10, w, i) = (f (10 + 10 * i + 0), .inr (1, [.int 0, .int 0, .int 0, .int 0, .int 0, .int 0, .int 0, .int 0, .int 0, .int 0, .int 0, .ref (f (10 + 10 * i + 1)), .ref (f (10 + 10 * i + 2)), .ref (f (10 + 10 * i + 4)), .ref (f (10 + 10 * i + 6)), .ref (f (10 + 10 * i + 7)), .ref (f (10 + 10 * i + 8)), .ref (f (10 + 10 * i + 9))])) := by
  unfold zw_c
  rw [z_c10, hz.2.1 10 i (by decide) (by decide), hz.1 10 i (by decide), hz.1 11 i (by decide), hz.1 12 i (by decide), hz.1 14 i (by decide), hz.1 16 i (by decide), hz.1 17 i (by decide), hz.1 18 i (by decide), hz.1 19 i (by decide)]
  rfl
theorem zw_c11 {E : zE} {w : Nat} {f : Nat → Nat} {ρ : zS} (hz : zw_H E w f ρ) (i : Nat) : zw_c E ρ (11, w, i) = (f (10 + 10 * i + 1), .inl (z_cy E 0, 240, .inl (fun _ => 0))) := by
  unfold zw_c
  rw [z_c11, hz.2.1 11 i (by decide) (by decide), hz.1 11 i (by decide)]
  rfl
theorem zw_c12 {E : zE} {w : Nat} {f : Nat → Nat} {ρ : zS} (hz : zw_H E w f ρ) (i : Nat) : zw_c E ρ (12, w, i) = (f (10 + 10 * i + 2), .inr (5, [.ref (f (10 + 10 * i + 3))])) := by
  unfold zw_c
  rw [z_c12, hz.1 12 i (by decide), hz.1 13 i (by decide)]
  rfl
theorem zw_c13 {E : zE} {w : Nat} {f : Nat → Nat} {ρ : zS} (hz : zw_H E w f ρ) (i : Nat) : zw_c E ρ (13, w, i) = (f (10 + 10 * i + 3), .inl (z_cy E 0, 20, .inl (fun _ => 0))) := by
  unfold zw_c
  rw [z_c13, hz.2.1 13 i (by decide) (by decide), hz.1 13 i (by decide)]
  rfl
theorem zw_c14 {E : zE} {w : Nat} {f : Nat → Nat} {ρ : zS} (hz : zw_H E w f ρ) (i : Nat) : zw_c E ρ (14, w, i) = (f (10 + 10 * i + 4), .inr (5, [.ref (f (10 + 10 * i + 5))])) := by
  unfold zw_c
  rw [z_c14, hz.1 14 i (by decide), hz.1 15 i (by decide)]
  rfl
theorem zw_c15 {E : zE} {w : Nat} {f : Nat → Nat} {ρ : zS} (hz : zw_H E w f ρ) (i : Nat) : zw_c E ρ (15, w, i) = (f (10 + 10 * i + 5), .inl (z_cy E 0, 20, .inl (fun _ => 0))) := by
  unfold zw_c
  rw [z_c15, hz.2.1 15 i (by decide) (by decide), hz.1 15 i (by decide)]
  rfl
theorem zw_c16 {E : zE} {w : Nat} {f : Nat → Nat} {ρ : zS} (hz : zw_H E w f ρ) (i : Nat) : zw_c E ρ (16, w, i) = (f (10 + 10 * i + 6), .inl (z_cy E 0, 7, .inl (fun _ => 0))) := by
  unfold zw_c
  rw [z_c16, hz.2.1 16 i (by decide) (by decide), hz.1 16 i (by decide)]
  rfl
theorem zw_c17 {E : zE} {w : Nat} {f : Nat → Nat} {ρ : zS} (hz : zw_H E w f ρ) (i : Nat) : zw_c E ρ (17, w, i) = (f (10 + 10 * i + 7), .inl (z_cy E 0, 7, .inl (fun _ => 0))) := by
  unfold zw_c
  rw [z_c17, hz.2.1 17 i (by decide) (by decide), hz.1 17 i (by decide)]
  rfl
theorem zw_c18 {E : zE} {w : Nat} {f : Nat → Nat} {ρ : zS} (hz : zw_H E w f ρ) (i : Nat) : zw_c E ρ (18, w, i) = (f (10 + 10 * i + 8), .inl (z_cy E 0, 7, .inl (fun _ => 0))) := by
  unfold zw_c
  rw [z_c18, hz.2.1 18 i (by decide) (by decide), hz.1 18 i (by decide)]
  rfl
theorem zw_c19 {E : zE} {w : Nat} {f : Nat → Nat} {ρ : zS} (hz : zw_H E w f ρ) (i : Nat) : zw_c E ρ (19, w, i) = (f (10 + 10 * i + 9), .inl (z_cy E 0, 7, .inl (fun _ => 0))) := by
  unfold zw_c
  rw [z_c19, hz.2.1 19 i (by decide) (by decide), hz.1 19 i (by decide)]
  rfl
theorem zw_c20 {E : zE} {w : Nat} {f : Nat → Nat} {ρ : zS} (hz : zw_H E w f ρ) (i : Nat) : zw_c E ρ (20, w, i) = (f (80 + 4 * i + 0), .inr (2, [.int (-1), .int 0, .int 0, .int 0, .int 0, .int 0, .int 0, .int 0, .int 0, .int 0, .ref (f (80 + 4 * i + 1)), .ref (f (80 + 4 * i + 2))])) := by
  unfold zw_c
  rw [z_c20, hz.2.2 i, hz.1 20 i (by decide), hz.1 21 i (by decide), hz.1 22 i (by decide)]
  rfl
theorem zw_c21 {E : zE} {w : Nat} {f : Nat → Nat} {ρ : zS} (hz : zw_H E w f ρ) (i : Nat) : zw_c E ρ (21, w, i) = (f (80 + 4 * i + 1), .inl (z_cy E 0, 30, .inl (fun _ => 0))) := by
  unfold zw_c
  rw [z_c21, hz.2.1 21 i (by decide) (by decide), hz.1 21 i (by decide)]
  rfl
theorem zw_c22 {E : zE} {w : Nat} {f : Nat → Nat} {ρ : zS} (hz : zw_H E w f ρ) (i : Nat) : zw_c E ρ (22, w, i) = (f (80 + 4 * i + 2), .inr (5, [.ref (f (80 + 4 * i + 3))])) := by
  unfold zw_c
  rw [z_c22, hz.1 22 i (by decide), hz.1 23 i (by decide)]
  rfl
theorem zw_c23 {E : zE} {w : Nat} {f : Nat → Nat} {ρ : zS} (hz : zw_H E w f ρ) (i : Nat) : zw_c E ρ (23, w, i) = (f (80 + 4 * i + 3), .inl (z_cy E 0, 20, .inl (fun _ => 0))) := by
  unfold zw_c
  rw [z_c23, hz.2.1 23 i (by decide) (by decide), hz.1 23 i (by decide)]
  rfl
theorem zw_W {E : zE} {w : Nat} {f : Nat → Nat} {ρ : zS} (hz : zw_H E w f ρ) : (z_idW w).map (zw_c E ρ) = zu_W E f := by
  have eK : (List.range 7).flatMap (fun i => List.map (zw_c E ρ) [(10, w, i), (11, w, i), (12, w, i), (13, w, i), (14, w, i), (15, w, i), (16, w, i), (17, w, i), (18, w, i), (19, w, i)]) = (List.range 7).flatMap (fun i => zu_K E (fun q => f (10 + 10 * i + q))) := z_flat_congr (fun i _ => by
    simp only [List.map_cons, List.map_nil, zw_c10 hz, zw_c11 hz, zw_c12 hz, zw_c13 hz, zw_c14 hz, zw_c15 hz, zw_c16 hz, zw_c17 hz, zw_c18 hz, zw_c19 hz]
    rfl)
  have eL : (List.range 41).flatMap (fun j => List.map (zw_c E ρ) [(20, w, j), (21, w, j), (22, w, j), (23, w, j)]) = (List.range 41).flatMap (fun j => zu_L E (fun q => zu_Pf f (10 + 4 * j + q))) := z_flat_congr (fun j _ => by
    simp only [List.map_cons, List.map_nil, zw_c20 hz, zw_c21 hz, zw_c22 hz, zw_c23 hz]
    have e2 : (fun q => zu_Pf f (10 + 4 * j + q)) = (fun q => f (80 + 4 * j + q)) := funext fun q => by
      unfold zu_Pf
      rw [if_neg (by omega), show 10 + 4 * j + q + 70 = 80 + 4 * j + q by omega]
    rw [e2]
    rfl)
  have eA : (fun j => some (f (80 + 4 * j + 0))) = (fun j => some (zu_Pf f (10 + 4 * j))) := funext fun j => by
    unfold zu_Pf
    rw [if_neg (by omega), show 10 + 4 * j + 70 = 80 + 4 * j + 0 by omega]
  unfold z_idW
  simp only [List.map_cons, List.map_append, List.map_flatMap, List.map_nil, zw_c0 hz, zw_c1 hz, zw_c2 hz, zw_c3 hz, zw_c4 hz, zw_c5 hz, zw_c6 hz, zw_c7 hz, zw_c8 hz]
  rw [eA]
  have eK2 := eK
  have eL2 := eL
  simp only [List.map_cons, List.map_nil] at eK2 eL2
  rw [eK2, eL2]
  rfl
def z_encX (a : zJ) : Nat := if a.1 < 30 then 100 + z_enc a else if a.1 ≤ 37 then a.1 - 30 else a.1 - 32
def z_idX : List zJ := (30, 0, 0) :: (((([] ++ [(31, 0, 0), (32, 0, 0), (33, 0, 0), (34, 0, 0), (35, 0, 0)]) ++ z_idW 0) ++ [(36, 0, 0)]) ++ [(37, 0, 0)]) ++ [(40, 0, 0), (41, 0, 0), (42, 0, 0), (43, 0, 0), (44, 0, 0), (45, 0, 0), (46, 0, 0), (47, 0, 0)]
def z_EX (E : zE) (f : Nat → Nat) : zE := (E.1, fun a => f (z_encX a), z_cy E, z_idX, fun _ => none)
/-- the state of a new object -/
def z_sX : zS := (fun a => if a.1 = 20 then (fun k => if k = 0 then -1 else 0) else if a.1 = 31 then (fun k => if k = 7 then -1 else 0) else (fun _ => 0), fun _ _ => 0)
theorem z_wsX (E : zE) (f : Nat → Nat) : z_ws (z_EX E f) z_sX = zu_X E f := by
  have hz : zw_H (z_EX E f) 0 (fun q => f (100 + q)) z_sX := by
    refine ⟨fun q i hq => ?_, fun q i hq h20 => ?_, fun i => rfl⟩
    · show f (if q < 30 then 100 + z_enc (q, 0, i) else _) = _
      rw [if_pos hq]
    · show (if q = 20 then (fun k => if k = 0 then (-1 : Int32) else 0) else if q = 31 then (fun k => if k = 7 then -1 else 0) else (fun _ => 0)) = fun _ => 0
      rw [if_neg h20, if_neg (by omega)]
  have hW := zw_W hz
  show List.map (zw_c (z_EX E f) z_sX) z_idX = zu_X E f
  unfold z_idX zu_X
  simp only [List.map_cons, List.map_append, List.map_nil]
  rw [hW]
  rfl
theorem z_EX_B (E : zE) (f : Nat → Nat) : z_B (z_EX E f) := by
  intro q h1 h2
  show ((q, 0, 0) : zJ) ∈ z_idX
  have : q = 30 ∨ q = 31 ∨ q = 32 ∨ q = 33 ∨ q = 34 ∨ q = 35 ∨ q = 36 ∨ q = 37 ∨ q = 40 ∨ q = 41 ∨ q = 42 ∨ q = 43 ∨ q = 44 ∨ q = 45 ∨ q = 46 ∨ q = 47 := by omega
  rcases this with rfl | rfl | rfl | rfl | rfl | rfl | rfl | rfl | rfl | rfl | rfl | rfl | rfl | rfl | rfl | rfl <;> simp [z_idX]
theorem z_EX_W (E : zE) (f : Nat → Nat) : z_W (z_EX E f) 0 := by
  have hin : ∀ a : zJ, a ∈ z_idW 0 → a ∈ z_idX := fun a h => by
    unfold z_idX
    exact List.mem_cons_of_mem _ (List.mem_append_left _ (List.mem_append_left _ (List.mem_append_left _ (List.mem_append_right _ h))))
  exact ⟨fun q hq => hin _ ((z_idW_W 0).1 q hq), fun i hi q h1 h2 => hin _ ((z_idW_W 0).2.1 i hi q h1 h2), fun i hi q h1 h2 => hin _ ((z_idW_W 0).2.2 i hi q h1 h2)⟩
theorem z_EX_Fr (E : zE) (f : Nat → Nat) (b : Nat) : z_Fr (z_EX E f) b := by
  intro a ha
  have ha : a ∈ z_idX := ha
  have h0 : a.2.1 = 0 ∧ (a.1 = 36 → a = (36, 0, 0)) := by
    unfold z_idX at ha
    have zb : ∀ zq : Nat, zq ≠ 36 → (zq, 0, 0) = a → a.2.1 = 0 ∧ (a.1 = 36 → a = (36, 0, 0)) := fun zq z1 z2 => by
      subst z2
      exact ⟨rfl, fun z3 => absurd z3 z1⟩
    have zl : ∀ zt : List Nat, (∀ zq ∈ zt, zq ≠ 36) → a ∈ zt.map (fun zq => ((zq, 0, 0) : zJ)) → a.2.1 = 0 ∧ (a.1 = 36 → a = (36, 0, 0)) := fun zt z1 z2 => by
      obtain ⟨zq, z3, z4⟩ := List.mem_map.mp z2
      exact zb zq (z1 zq z3) z4
    rcases List.mem_append.mp ha with z1 | z1
    · rcases List.mem_cons.mp z1 with z2 | z2
      · exact zb 30 (by decide) z2.symm
      · rcases List.mem_append.mp z2 with z3 | z3
        · rcases List.mem_append.mp z3 with z4 | z4
          · rcases List.mem_append.mp z4 with z5 | z5
            · exact zl [31, 32, 33, 34, 35] (by decide) z5
            · have z6 := z_idW_in z5
              exact ⟨z6.1, fun z7 => absurd z6.2 (by omega)⟩
          · have z5 := List.mem_singleton.mp z4
            subst z5
            exact ⟨rfl, fun _ => rfl⟩
        · exact zl [37] (by decide) z3
    · exact zl [40, 41, 42, 43, 44, 45, 46, 47] (by decide) z1
  refine ⟨?_, h0.2⟩
  rw [h0.1]
  omega
theorem z_AOin : ∀ w ∈ ([Cond.arrayOver (.object RX1), Cond.arrayOver (.object RX2), Cond.arrayOver (.object RX7), Cond.stringRef RX6 74 "keeper", Cond.stringRef RX6 80 "silent", Cond.stringRef RX6 84 ";", Cond.laysStatic RJ0 "COMPACT_STRINGS" "Z", Cond.laysStatic RJ3 "SIOOBE_FORMATTER" "Ljava/util/function/BiFunction;"] : List Cond), w ∈ lw_tbl := by decide +kernel
theorem zs_cls {s : State} {args : Array Value} (htw : ∀ w ∈ z_wl, w.before args s = true) : ∃ (dC : Nat → ClassId) (dI : Nat → Nat → Nat), ∀ (k : Nat) (q : vw_C), z_cl[k]? = some q → u_Kn s q.1 q.2.1 q.2.2 (dC k) (dI k) := by
  have h : ∀ k : Nat, ∃ x : ClassId × (Nat → Nat), ∀ q : vw_C, z_cl[k]? = some q → u_Kn s q.1 q.2.1 q.2.2 x.1 x.2 := by
    intro k
    match k with
    | 0 =>
      obtain ⟨x1, x2, hh⟩ := u_known (C := RX0) (T := TX0) (N := 10) (n := 10) htw z_iX0 (htw _ z_k304)
      exact ⟨(x1, x2), fun q hq => by cases hq; exact hh⟩
    | 1 =>
      obtain ⟨x1, x2, hh⟩ := u_known (C := RX1) (T := TX1) (N := 18) (n := 18) htw z_iX1 (htw _ z_k79)
      exact ⟨(x1, x2), fun q hq => by cases hq; exact hh⟩
    | 2 =>
      obtain ⟨x1, x2, hh⟩ := u_known (C := RX2) (T := TX2) (N := 12) (n := 12) htw z_iX2 (htw _ z_k186)
      exact ⟨(x1, x2), fun q hq => by cases hq; exact hh⟩
    | 3 =>
      obtain ⟨x1, x2, hh⟩ := u_known (C := RX3) (T := TX3) (N := 2) (n := 2) htw z_iX3 (htw _ z_k179)
      exact ⟨(x1, x2), fun q hq => by cases hq; exact hh⟩
    | 4 =>
      obtain ⟨x1, x2, hh⟩ := u_known (C := RX4) (T := TX4) (N := 5) (n := 5) htw z_iX4 (htw _ z_k254)
      exact ⟨(x1, x2), fun q hq => by cases hq; exact hh⟩
    | 5 =>
      obtain ⟨x1, x2, hh⟩ := u_known (C := RX5) (T := TX5) (N := 1) (n := 1) htw z_iX5 (htw _ z_k85)
      exact ⟨(x1, x2), fun q hq => by cases hq; exact hh⟩
    | 6 =>
      obtain ⟨x1, x2, hh⟩ := u_known (C := RX6) (T := TX6) (N := 10) (n := 10) htw z_iX6 (htw _ z_k27)
      exact ⟨(x1, x2), fun q hq => by cases hq; exact hh⟩
    | 7 =>
      obtain ⟨x1, x2, hh⟩ := u_known (C := RX7) (T := TX7) (N := 5) (n := 5) htw z_iX7 (htw _ z_k72)
      exact ⟨(x1, x2), fun q hq => by cases hq; exact hh⟩
    | 8 =>
      obtain ⟨x1, x2, hh⟩ := u_known (C := RX8) (T := TX8) (N := 5) (n := 5) htw z_iX8 (htw _ z_k19)
      exact ⟨(x1, x2), fun q hq => by cases hq; exact hh⟩
    | 9 =>
      obtain ⟨x1, x2, hh⟩ := u_known (C := RX9) (T := TX9) (N := 27) (n := 27) htw z_iX9 (htw _ z_k937)
      exact ⟨(x1, x2), fun q hq => by cases hq; exact hh⟩
    | k + 10 =>
      exact ⟨(0, fun _ => 0), fun q hq => by
        have := (List.getElem?_eq_some_iff.mp hq).1
        simp at this
        omega⟩
  obtain ⟨f, hf⟩ := Classical.axiomOfChoice h
  exact ⟨fun k => (f k).1, fun k => (f k).2, hf⟩
theorem zs_arr {s : State} {ty : FieldType} (hp : ∀ C, ty ≠ .object C) {args : Array Value} (h : (Cond.arrayClass ty).before args s = true) : ∃ cA : ClassId, ArrOfT s cA ty ∧ va_RA s cA ty := by
  obtain ⟨cA, kA, comp, h1, h2, h3⟩ := Cond.arrayClass_spec h
  refine ⟨cA, fun N z => ⟨(fun k h => by cases h), kA, h2, comp, h3⟩, ?_⟩
  cases ty with
  | object C => exact absurd rfl (hp C)
  | _ => exact h1
theorem zs_arrO {s : State} {C : String} (h : va_AO C s) : ∃ cA : ClassId, ArrOfT s cA (.object C) ∧ va_RA s cA (.object C) := by
  obtain ⟨comp, cA, kA, h1, -, h2, h3, h4⟩ := Cond.arrayOver_spec h
  exact ⟨cA, fun N z => ⟨(fun k h => by cases h), kA, h2, comp, h3⟩, kA, comp, h2, h3, h1, h4⟩
theorem zs_K {s : State} {args : Array Value} (ht : ∀ w ∈ lw_tbl, w.before args s = true) : ∃ E : zE, z_KA E s := by
  have htw : ∀ w ∈ z_wl, w.before args s = true := fun w hw => ht w (List.mem_filter.mp hw).1
  obtain ⟨dC, dI, hK⟩ := zs_cls htw
  have a1 : va_AO RX1 s := va_AO.of (ht _ (z_AOin _ (List.mem_of_getElem? (i := 0) rfl)))
  have a2 : va_AO RX2 s := va_AO.of (ht _ (z_AOin _ (List.mem_of_getElem? (i := 1) rfl)))
  have a3 : va_AO RX7 s := va_AO.of (ht _ (z_AOin _ (List.mem_of_getElem? (i := 2) rfl)))
  obtain ⟨cI, hI⟩ := zs_arr (fun _ h => by cases h) (htw _ z_aI)
  obtain ⟨cB, hB⟩ := zs_arr (fun _ h => by cases h) (htw _ z_aB)
  obtain ⟨cZ, hZ⟩ := zs_arr (fun _ h => by cases h) (htw _ z_aZ)
  obtain ⟨cJ, hJ⟩ := zs_arr (fun _ h => by cases h) (htw _ z_aJ)
  obtain ⟨c1, h1⟩ := zs_arrO a1
  obtain ⟨c2, h2⟩ := zs_arrO a2
  obtain ⟨c3, h3⟩ := zs_arrO a3
  refine ⟨((dC, dI), fun _ => 0, fun k => [cI, cB, cZ, cJ, c1, c2, c3].getD k 0, [], fun _ => none), ⟨⟨hK, fun k q hq => ?_⟩, fun w hw => va_tabs (z_nlT hw) rfl (ht w (z_nl_in w hw))⟩, a1, a2, a3⟩
  match k, hq with
  | 0, hq => cases hq; exact hI
  | 1, hq => cases hq; exact hB
  | 2, hq => cases hq; exact hZ
  | 3, hq => cases hq; exact hJ
  | 4, hq => cases hq; exact h1
  | 5, hq => cases hq; exact h2
  | 6, hq => cases hq; exact h3
  | k + 7, hq =>
    have := (List.getElem?_eq_some_iff.mp hq).1
    simp at this
    omega
def z_tm (i : Nat) : Term := .string "LogKeepers$Tape" ([74, 80, 84].getD i 0)
set_option maxHeartbeats 4000000 in
theorem zs_S {s : State} {b : Nat} (ht : ∀ w ∈ lw_tbl, w.before #[Value.ref b] s = true) (hgv : (Jvm.Cond.and given_1 narrow_1).before #[Value.ref b] s = true) : ∃ (K V : Nat → Nat) (fv : Value), z_Sx K V fv (fun q => s.heap.size ≤ q) s s.heap := by
  have hs := flat_of_before _ hgv
  have hA : ∀ a : Nat, a < s.heap.size → ¬ (fun q => s.heap.size ≤ q) a := fun a h => Nat.not_le.mpr h
  have c3 : ∀ {P : Nat → Prop}, P 0 → P 1 → P 2 → ∀ i : Nat, i < 3 → P i := fun h0 h1 h2 i hi => by
    rcases (show i = 0 ∨ i = 1 ∨ i = 2 by omega) with rfl | rfl | rfl
    · exact h0
    · exact h1
    · exact h2
  obtain ⟨K, V, hS, hT⟩ := vk_Sof (args := #[Value.ref b]) (s := s) (N := 3) (tm := z_tm) (len := z_len) (byt := z_byt) (A := fun q => s.heap.size ≤ q)
    (c3 (by decide) (by decide) (by decide))
    (c3 (hs _ (by decide +kernel)) (hs _ (by decide +kernel)) (hs _ (by decide +kernel)))
    (c3 (hs _ (by decide +kernel)) (hs _ (by decide +kernel)) (hs _ (by decide +kernel)))
    (c3 (hs _ (by decide +kernel)) (hs _ (by decide +kernel)) (hs _ (by decide +kernel)))
    (c3 (hs _ (by decide +kernel)) (hs _ (by decide +kernel)) (hs _ (by decide +kernel)))
    (c3 (fun j hj => by
        have hj : j < 6 := hj
        rcases (show j = 0 ∨ j = 1 ∨ j = 2 ∨ j = 3 ∨ j = 4 ∨ j = 5 by omega) with rfl | rfl | rfl | rfl | rfl | rfl <;> exact hs _ (by decide +kernel))
      (fun j hj => by
        have hj : j < 6 := hj
        rcases (show j = 0 ∨ j = 1 ∨ j = 2 ∨ j = 3 ∨ j = 4 ∨ j = 5 by omega) with rfl | rfl | rfl | rfl | rfl | rfl <;> exact hs _ (by decide +kernel))
      (fun j hj => by
        have hj : j < 1 := hj
        rcases (show j = 0 by omega) with rfl
        exact hs _ (by decide +kernel)))
    (fun i j hi hj hne => by
      rcases (show i = 0 ∨ i = 1 ∨ i = 2 by omega) with rfl | rfl | rfl <;> rcases (show j = 0 ∨ j = 1 ∨ j = 2 by omega) with rfl | rfl | rfl <;> first | exact absurd rfl hne | exact Or.inl (hs _ (by decide +kernel)) | exact Or.inr (hs _ (by decide +kernel)))
    hA
  have hz1 : va_Z RJ0 "COMPACT_STRINGS" "Z" (.int 1) (fun q => s.heap.size ≤ q) s s.heap := va_Zof (ht _ (z_AOin _ (List.mem_of_getElem? (i := 6) rfl))) (ht _ (List.mem_filter.mp z_k11).1) (va_eqt (hs _ (by decide +kernel))) hA
  have hz2 : va_Zq RJ3 "SIOOBE_FORMATTER" "Ljava/util/function/BiFunction;" (fun q => s.heap.size ≤ q) s s.heap := va_Zqof (ht _ (z_AOin _ (List.mem_of_getElem? (i := 7) rfl))) (ht _ (List.mem_filter.mp z_k13).1) (hs _ (by decide +kernel)) hA
  have r0 : vk_R RX6 74 "keeper" (K 0) s := vk_R.of (ht _ (z_AOin _ (List.mem_of_getElem? (i := 3) rfl))) (hT 0 (by decide))
  have r1 : vk_R RX6 80 "silent" (K 1) s := vk_R.of (ht _ (z_AOin _ (List.mem_of_getElem? (i := 4) rfl))) (hT 1 (by decide))
  have r2 : vk_R RX6 84 ";" (K 2) s := vk_R.of (ht _ (z_AOin _ (List.mem_of_getElem? (i := 5) rfl))) (hT 2 (by decide))
  rcases hz2 with h | ⟨t, h⟩
  · exact ⟨K, V, .null, hS, ⟨r0, r1, r2⟩, hz1, h, Or.inl rfl⟩
  · exact ⟨K, V, .ref t, hS, ⟨r0, r1, r2⟩, hz1, h, Or.inr ⟨t, rfl⟩⟩
set_option maxHeartbeats 8000000 in
set_option maxRecDepth 20000 in
/-- THE LAW, from its entry, over any relation that the start has and every call keeps -/
theorem zl_whole {REL : (Nat → Bool) → zS → zS → Nat → Prop} (AL : zl_all REL) {σ1 : zS} (hbeg : fM_begin z_sM = some ((), σ1)) (h0 : REL (fun _ => false) z_sX σ1 0) {p : Program} {e : Env} {s : State} {m : MethodId} {below : List Frame} {meth : Method} {c : Code} (l : Launch) {b L : Nat} {xs : Nat → Int32} (hL : L ≤ 3584) (C0 : lw_At p s m meth c b L xs) : W p l e room_1 s m #[Value.ref b] below meth c s.heap [] 0 0 (lw_Z below #[Value.ref b] s) (entryFrame m ([Value.ref b] : List Value).toArray 4) := by
  obtain ⟨hx, hb, hr, hml, hown, ht, hXs, hbl, hlk, hgv⟩ := id C0
  have htw : ∀ w ∈ z_wl, w.before #[Value.ref b] s = true := fun w hw => ht w (List.mem_filter.mp hw).1
  obtain ⟨E, hKA⟩ := zs_K ht
  obtain ⟨K, V, fv, hSx⟩ := zs_S ht hgv
  have hA : ∀ q : Nat, s.heap.size ≤ q → (fun q : Nat => s.heap.size ≤ q) q := fun _ h => h
  have hbA : ¬ (fun q : Nat => s.heap.size ≤ q) b := Nat.not_le.mpr hbl
  have C : zl_L K V fv (fun q => s.heap.size ≤ q) p s m #[Value.ref b] meth c b L xs := ⟨hx, hb, hml, hown, htw, hA, hlk, hSx, hXs, hbl, hbA, hL⟩
  have Cn : zn_C E RL code 4 (fun q => s.heap.size ≤ q) p s m #[Value.ref b] meth c := ⟨hx, hb, hml, hown, htw, hKA, hA, hlk⟩
  have hsn : zn_H E (fun q => s.heap.size ≤ q) s [] s.heap [] := ⟨fun k q h => by simp at h, ⟨fun i j p q h => by simp at h, fun k q h => by simp at h⟩, va_S.rf⟩
  have hl := lv_entry ([.ref b]) (n := 4) (Nat.le_of_ble_eq_true rfl)
  rw [lg_entry_eq]
  generalize (lg_sl ([.ref b]) ++ List.replicate (4 - (lg_sl ([.ref b])).length) Slot.unset).toArray = ls at hl ⊢
  have hl : lv_has ls 4 [(0, .ref b)] := hl
  refine zn_new Cn hsn z_iX8 tyX8 tyX8_ok z_k18 z_k19 z_k1 (ci := 8) rfl zd_X8 (Nat.le_of_ble_eq_true rfl) (Nat.le_of_ble_eq_true rfl) dL_law_0 dL_law_3 (fun q1 H hsn => ?_)
  refine zn_callI Cn hl.1 (cn_X l E) hsn ⟨rfl, rfl⟩ z_k20 z_k21 z_k1 z_k22 (by decide +kernel) ⟨Nat.le_of_ble_eq_true rfl, Nat.le_of_ble_eq_true rfl⟩ (Nat.le_of_ble_eq_true rfl) ⟨Nat.le_of_ble_eq_true rfl, Nat.le_of_ble_eq_true rfl⟩ dL_law_4 (fun fX H locs hq hsN => ?_)
  subst hq
  refine lv_astore_n (lv' := [(1, .ref (fX 0)), (0, .ref b)]) hx hb dL_law_7 rfl hl (by decide) rfl (fun ls hl => ?_)
  refine zn_new Cn hsN z_iX9 tyX9 tyX9_ok z_k936 z_k937 z_k10 (ci := 9) rfl zd_X9 (Nat.le_of_ble_eq_true rfl) (Nat.le_of_ble_eq_true rfl) dL_law_8 dL_law_11 (fun q2 H hsM => ?_)
  refine zn_callI Cn hl.1 (cn_M l E hbeg) hsM ⟨rfl, rfl⟩ z_k938 z_k939 z_k10 z_k940 (by decide +kernel) ⟨Nat.le_of_ble_eq_true rfl, Nat.le_of_ble_eq_true rfl⟩ (Nat.le_of_ble_eq_true rfl) ⟨Nat.le_of_ble_eq_true rfl, Nat.le_of_ble_eq_true rfl⟩ dL_law_12 (fun fM H locs hq hsZ => ?_)
  subst hq
  have hsZ : zn_H E (fun q => s.heap.size ≤ q) s (z_ws (z_EX E fX) z_sX ++ z_ws (z_EM E fM) σ1) H locs := by
    rw [z_wsX]
    exact hsZ
  refine lv_astore_n (lv' := [(2, .ref (fM 0)), (1, .ref (fX 0)), (0, .ref b)]) hx hb dL_law_15 rfl hl (by decide) rfl (fun ls hl => ?_)
  refine lv_iconst (v := nI 0) hx hb dL_law_16 (by decide +kernel) ?_
  refine lv_istore_n (lv' := [(3, .int (nI 0)), (2, .ref (fM 0)), (1, .ref (fX 0)), (0, .ref b)]) hx hb dL_law_17 rfl hl (by decide) rfl (fun ls hl => ?_)
  have inl : ∀ {k : Nat} {q : Nat × va_E}, (z_ws (z_EX E fX) z_sX)[k]? = some q → (z_ws (z_EX E fX) z_sX ++ z_ws (z_EM E fM) σ1)[k]? = some q := fun {k q} h => by
    rw [List.getElem?_append_left (List.getElem?_eq_some_iff.mp h).1]; exact h
  have inr : ∀ {k : Nat} {q : Nat × va_E}, (z_ws (z_EM E fM) σ1)[k]? = some q → (z_ws (z_EX E fX) z_sX ++ z_ws (z_EM E fM) σ1)[(z_ws (z_EX E fX) z_sX).length + k]? = some q := fun {k q} h => by
    rw [List.getElem?_append_right (by omega), show (z_ws (z_EX E fX) z_sX).length + k - (z_ws (z_EX E fX) z_sX).length = k by omega]; exact h
  have hDX : va_D (fun q => s.heap.size ≤ q) (z_ws (z_EX E fX) z_sX) := ⟨fun i j p q hi hj => hsZ.2.1.1 i j p q (inl hi) (inl hj), fun k q h => hsZ.2.1.2 k q (inl h)⟩
  have hDM : va_D (fun q => s.heap.size ≤ q) (z_ws (z_EM E fM) σ1) := ⟨fun i j p q hi hj e1 => Nat.add_left_cancel (hsZ.2.1.1 _ _ p q (inr hi) (inr hj) e1), fun k q h => hsZ.2.1.2 _ q (inr h)⟩
  have hdis : ∀ a ∈ z_ids (z_EX E fX), ∀ d ∈ z_ids (z_EM E fM), z_ad (z_EX E fX) a ≠ z_ad (z_EM E fM) d := by
    intro a ha d hd e1
    obtain ⟨k1, -, h1⟩ := z_at z_sX ha
    obtain ⟨k2, -, h2⟩ := z_at σ1 hd
    have := hsZ.2.1.1 _ _ _ _ (inl h1) (inr h2) e1
    have := (List.getElem?_eq_some_iff.mp h1).1
    omega
  have hI : zl_I (fun q => s.heap.size ≤ q) s (z_EX E fX) (z_EM E fM) (fun _ => false) z_sX σ1 H locs := ⟨hKA, fun ρ => z_Dall hDX ρ, ⟨z_EX_B E fX, z_EX_W E fX, fun bb _ => ⟨fun zh => (by cases zh), fun _ => rfl⟩, fun bb _ _ => z_EX_Fr E fX bb⟩, hKA.1, fun ρ => z_Dall hDM ρ, z_EM_M E fM, hdis, ⟨fun k q h => hsZ.1 k q (inl h), hsZ.2.2⟩, ⟨fun k q h => hsZ.1 _ q (inr h), hsZ.2.2⟩⟩
  refine W.widen (k := 276 + 243 * zl_nb (fun _ => false)) (n := 27114 + 5098 * zl_nb (fun _ => false)) (by show _ ≤ 276 + 243 * 0; omega) (by show _ ≤ 27114 + 5098 * 0; omega) ?_
  refine zl_loop C AL (fun H locs ls cells slots h1 h2 hS => ?_) 512 0 (z_EX E fX) (fun _ => false) z_sX σ1 H locs ls rfl hI hl h0
  refine W.widen (k := 600000) (n := 7302250) h1 h2 ?_
  refine va_forget hS.2.2 ?_
  refine lv_iconst (v := 1) hx hb dL_law_1032 (by decide) ?_
  exact lw_ret hx hb hr hlk dL_law_1033
