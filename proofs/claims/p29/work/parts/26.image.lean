def z_enc (a : zJ) : Nat := if a.1 ≤ 8 then a.1 else if a.1 < 20 then 10 + 10 * a.2.2 + (a.1 - 10) else 80 + 4 * a.2.2 + (a.1 - 20)
def z_idW (w : Nat) : List zJ := (0, w, 0) :: (1, w, 0) :: (((List.range 7).flatMap (fun i => [(10, w, i), (11, w, i), (12, w, i), (13, w, i), (14, w, i), (15, w, i), (16, w, i), (17, w, i), (18, w, i), (19, w, i)]) ++ ((2, w, 0) :: (3, w, 0) :: (List.range 41).flatMap (fun j => [(20, w, j), (21, w, j), (22, w, j), (23, w, j)]))) ++ [(4, w, 0), (5, w, 0), (6, w, 0), (7, w, 0), (8, w, 0)])
def z_ext (E : zE) (b : Nat) (f : Nat → Nat) : zE := (E.1, fun a => if a.1 < 30 ∧ a.2.1 = b + 1 then f (z_enc a) else z_ad E a, z_cy E, z_ids E ++ z_idW (b + 1), fun j => if j = b then some (f 0) else z_bx E j)
def z_new (σ : zS) (w : Nat) : zS := (fun a => if a.1 < 30 ∧ a.2.1 = w then (if a.1 = 20 then (fun k => if k = 0 then -1 else 0) else (fun _ => 0)) else σ.1 a, σ.2)
theorem z_ext_in (E : zE) (b : Nat) (f : Nat → Nat) {q i : Nat} (hq : q < 30) : z_ad (z_ext E b f) (q, b + 1, i) = f (z_enc (q, b + 1, i)) := if_pos ⟨hq, rfl⟩
theorem z_new_in (σ : zS) (w : Nat) {q i : Nat} (hq : q < 30) (h20 : q ≠ 20) : (z_new σ w).1 (q, w, i) = fun _ => 0 := by
  show (if q < 30 ∧ w = w then (if q = 20 then (fun k => if k = 0 then -1 else 0) else (fun _ => 0)) else σ.1 (q, w, i)) = _
  rw [if_pos ⟨hq, rfl⟩, if_neg h20]
theorem z_new_20 (σ : zS) (w i : Nat) : (z_new σ w).1 (20, w, i) = fun k => if k = 0 then -1 else 0 := by
  show (if 20 < 30 ∧ w = w then (if 20 = 20 then (fun k => if k = 0 then -1 else 0) else (fun _ => 0)) else σ.1 (20, w, i)) = _
  rw [if_pos ⟨by decide, rfl⟩, if_pos rfl]
/-- the cell of a new name -/
def z_nc (E : zE) (b : Nat) (f : Nat → Nat) (σ : zS) (a : zJ) : Nat × va_E := (z_ad (z_ext E b f) a, z_cell (z_ext E b f) ((z_new σ (b + 1)).1 a) ((z_new σ (b + 1)).2 a) a)
theorem z_nc0 (E : zE) (b : Nat) (f : Nat → Nat) (σ : zS) : z_nc E b f σ (0, b + 1, 0) = (f (0), .inr (7, [.ref (f (1)), .ref (f (2)), .ref (f (4)), .int 0, .int 0])) := by
  unfold z_nc
  rw [z_c0, z_new_in σ (b + 1) (by decide) (by decide), z_ext_in E b f (q := 0) (i := 0) (by decide), z_ext_in E b f (q := 1) (i := 0) (by decide), z_ext_in E b f (q := 2) (i := 0) (by decide), z_ext_in E b f (q := 4) (i := 0) (by decide)]
  rfl
theorem z_nc1 (E : zE) (b : Nat) (f : Nat → Nat) (σ : zS) : z_nc E b f σ (1, b + 1, 0) = (f (1), .inl (z_cy E 4, 7, .inr (.inr (.inr (.inr (fun j => some (f (10 + 10 * j + 0)))))))) := by
  unfold z_nc
  rw [z_c1, z_ext_in E b f (q := 1) (i := 0) (by decide), show (fun j => some (z_ad (z_ext E b f) (10, b + 1, j))) = (fun j => some (f (10 + 10 * j + 0))) from funext fun j => congrArg some (z_ext_in E b f (q := 10) (i := j) (by decide))]
  rfl
theorem z_nc2 (E : zE) (b : Nat) (f : Nat → Nat) (σ : zS) : z_nc E b f σ (2, b + 1, 0) = (f (2), .inr (3, [.ref (f (3)), .ref (f (80 + 4 * 40 + 0))])) := by
  unfold z_nc
  rw [z_c2, z_ext_in E b f (q := 2) (i := 0) (by decide), z_ext_in E b f (q := 3) (i := 0) (by decide), z_ext_in E b f (q := 20) (i := 40) (by decide)]
  rfl
theorem z_nc3 (E : zE) (b : Nat) (f : Nat → Nat) (σ : zS) : z_nc E b f σ (3, b + 1, 0) = (f (3), .inl (z_cy E 5, 40, .inr (.inr (.inr (.inr (fun j => some (f (80 + 4 * j + 0)))))))) := by
  unfold z_nc
  rw [z_c3, z_ext_in E b f (q := 3) (i := 0) (by decide), show (fun j => some (z_ad (z_ext E b f) (20, b + 1, j))) = (fun j => some (f (80 + 4 * j + 0))) from funext fun j => congrArg some (z_ext_in E b f (q := 20) (i := j) (by decide))]
  rfl
theorem z_nc4 (E : zE) (b : Nat) (f : Nat → Nat) (σ : zS) : z_nc E b f σ (4, b + 1, 0) = (f (4), .inr (4, [.ref (f (5)), .ref (f (6)), .ref (f (7)), .ref (f (8)), .int 0])) := by
  unfold z_nc
  rw [z_c4, z_new_in σ (b + 1) (by decide) (by decide), z_ext_in E b f (q := 4) (i := 0) (by decide), z_ext_in E b f (q := 5) (i := 0) (by decide), z_ext_in E b f (q := 6) (i := 0) (by decide), z_ext_in E b f (q := 7) (i := 0) (by decide), z_ext_in E b f (q := 8) (i := 0) (by decide)]
  rfl
theorem z_nc5 (E : zE) (b : Nat) (f : Nat → Nat) (σ : zS) : z_nc E b f σ (5, b + 1, 0) = (f (5), .inl (z_cy E 0, 40, .inl (fun _ => 0))) := by
  unfold z_nc
  rw [z_c5, z_new_in σ (b + 1) (by decide) (by decide), z_ext_in E b f (q := 5) (i := 0) (by decide)]
  rfl
theorem z_nc6 (E : zE) (b : Nat) (f : Nat → Nat) (σ : zS) : z_nc E b f σ (6, b + 1, 0) = (f (6), .inl (z_cy E 0, 40, .inl (fun _ => 0))) := by
  unfold z_nc
  rw [z_c6, z_new_in σ (b + 1) (by decide) (by decide), z_ext_in E b f (q := 6) (i := 0) (by decide)]
  rfl
theorem z_nc7 (E : zE) (b : Nat) (f : Nat → Nat) (σ : zS) : z_nc E b f σ (7, b + 1, 0) = (f (7), .inl (z_cy E 0, 40, .inl (fun _ => 0))) := by
  unfold z_nc
  rw [z_c7, z_new_in σ (b + 1) (by decide) (by decide), z_ext_in E b f (q := 7) (i := 0) (by decide)]
  rfl
theorem z_nc8 (E : zE) (b : Nat) (f : Nat → Nat) (σ : zS) : z_nc E b f σ (8, b + 1, 0) = (f (8), .inl (z_cy E 0, 40, .inl (fun _ => 0))) := by
  unfold z_nc
  rw [z_c8, z_new_in σ (b + 1) (by decide) (by decide), z_ext_in E b f (q := 8) (i := 0) (by decide)]
  rfl
theorem z_nc10 (E : zE) (b : Nat) (f : Nat → Nat) (σ : zS) (i : Nat) : z_nc E b f σ (10, b + 1, i) = (f (10 + 10 * i + 0), .inr (1, [.int 0, .int 0, .int 0, .int 0, .int 0, .int 0, .int 0, .int 0, .int 0, .int 0, .int 0, .ref (f (10 + 10 * i + 1)), .ref (f (10 + 10 * i + 2)), .ref (f (10 + 10 * i + 4)), .ref (f (10 + 10 * i + 6)), .ref (f (10 + 10 * i + 7)), .ref (f (10 + 10 * i + 8)), .ref (f (10 + 10 * i + 9))])) := by
  unfold z_nc
  rw [z_c10, z_new_in σ (b + 1) (by decide) (by decide), z_ext_in E b f (q := 10) (i := i) (by decide), z_ext_in E b f (q := 11) (i := i) (by decide), z_ext_in E b f (q := 12) (i := i) (by decide), z_ext_in E b f (q := 14) (i := i) (by decide), z_ext_in E b f (q := 16) (i := i) (by decide), z_ext_in E b f (q := 17) (i := i) (by decide), z_ext_in E b f (q := 18) (i := i) (by decide), z_ext_in E b f (q := 19) (i := i) (by decide)]
  rfl
theorem z_nc11 (E : zE) (b : Nat) (f : Nat → Nat) (σ : zS) (i : Nat) : z_nc E b f σ (11, b + 1, i) = (f (10 + 10 * i + 1), .inl (z_cy E 0, 240, .inl (fun _ => 0))) := by
  unfold z_nc
  rw [z_c11, z_new_in σ (b + 1) (by decide) (by decide), z_ext_in E b f (q := 11) (i := i) (by decide)]
  rfl
theorem z_nc12 (E : zE) (b : Nat) (f : Nat → Nat) (σ : zS) (i : Nat) : z_nc E b f σ (12, b + 1, i) = (f (10 + 10 * i + 2), .inr (5, [.ref (f (10 + 10 * i + 3))])) := by
  unfold z_nc
  rw [z_c12, z_ext_in E b f (q := 12) (i := i) (by decide), z_ext_in E b f (q := 13) (i := i) (by decide)]
  rfl
theorem z_nc13 (E : zE) (b : Nat) (f : Nat → Nat) (σ : zS) (i : Nat) : z_nc E b f σ (13, b + 1, i) = (f (10 + 10 * i + 3), .inl (z_cy E 0, 20, .inl (fun _ => 0))) := by
  unfold z_nc
  rw [z_c13, z_new_in σ (b + 1) (by decide) (by decide), z_ext_in E b f (q := 13) (i := i) (by decide)]
  rfl
theorem z_nc14 (E : zE) (b : Nat) (f : Nat → Nat) (σ : zS) (i : Nat) : z_nc E b f σ (14, b + 1, i) = (f (10 + 10 * i + 4), .inr (5, [.ref (f (10 + 10 * i + 5))])) := by
  unfold z_nc
  rw [z_c14, z_ext_in E b f (q := 14) (i := i) (by decide), z_ext_in E b f (q := 15) (i := i) (by decide)]
  rfl
theorem z_nc15 (E : zE) (b : Nat) (f : Nat → Nat) (σ : zS) (i : Nat) : z_nc E b f σ (15, b + 1, i) = (f (10 + 10 * i + 5), .inl (z_cy E 0, 20, .inl (fun _ => 0))) := by
  unfold z_nc
  rw [z_c15, z_new_in σ (b + 1) (by decide) (by decide), z_ext_in E b f (q := 15) (i := i) (by decide)]
  rfl
theorem z_nc16 (E : zE) (b : Nat) (f : Nat → Nat) (σ : zS) (i : Nat) : z_nc E b f σ (16, b + 1, i) = (f (10 + 10 * i + 6), .inl (z_cy E 0, 7, .inl (fun _ => 0))) := by
  unfold z_nc
  rw [z_c16, z_new_in σ (b + 1) (by decide) (by decide), z_ext_in E b f (q := 16) (i := i) (by decide)]
  rfl
theorem z_nc17 (E : zE) (b : Nat) (f : Nat → Nat) (σ : zS) (i : Nat) : z_nc E b f σ (17, b + 1, i) = (f (10 + 10 * i + 7), .inl (z_cy E 0, 7, .inl (fun _ => 0))) := by
  unfold z_nc
  rw [z_c17, z_new_in σ (b + 1) (by decide) (by decide), z_ext_in E b f (q := 17) (i := i) (by decide)]
  rfl
theorem z_nc18 (E : zE) (b : Nat) (f : Nat → Nat) (σ : zS) (i : Nat) : z_nc E b f σ (18, b + 1, i) = (f (10 + 10 * i + 8), .inl (z_cy E 0, 7, .inl (fun _ => 0))) := by
  unfold z_nc
  rw [z_c18, z_new_in σ (b + 1) (by decide) (by decide), z_ext_in E b f (q := 18) (i := i) (by decide)]
  rfl
theorem z_nc19 (E : zE) (b : Nat) (f : Nat → Nat) (σ : zS) (i : Nat) : z_nc E b f σ (19, b + 1, i) = (f (10 + 10 * i + 9), .inl (z_cy E 0, 7, .inl (fun _ => 0))) := by
  unfold z_nc
  rw [z_c19, z_new_in σ (b + 1) (by decide) (by decide), z_ext_in E b f (q := 19) (i := i) (by decide)]
  rfl
theorem z_nc20 (E : zE) (b : Nat) (f : Nat → Nat) (σ : zS) (i : Nat) : z_nc E b f σ (20, b + 1, i) = (f (80 + 4 * i + 0), .inr (2, [.int (-1), .int 0, .int 0, .int 0, .int 0, .int 0, .int 0, .int 0, .int 0, .int 0, .ref (f (80 + 4 * i + 1)), .ref (f (80 + 4 * i + 2))])) := by
  unfold z_nc
  rw [z_c20, z_new_20, z_ext_in E b f (q := 20) (i := i) (by decide), z_ext_in E b f (q := 21) (i := i) (by decide), z_ext_in E b f (q := 22) (i := i) (by decide)]
  rfl
theorem z_nc21 (E : zE) (b : Nat) (f : Nat → Nat) (σ : zS) (i : Nat) : z_nc E b f σ (21, b + 1, i) = (f (80 + 4 * i + 1), .inl (z_cy E 0, 30, .inl (fun _ => 0))) := by
  unfold z_nc
  rw [z_c21, z_new_in σ (b + 1) (by decide) (by decide), z_ext_in E b f (q := 21) (i := i) (by decide)]
  rfl
theorem z_nc22 (E : zE) (b : Nat) (f : Nat → Nat) (σ : zS) (i : Nat) : z_nc E b f σ (22, b + 1, i) = (f (80 + 4 * i + 2), .inr (5, [.ref (f (80 + 4 * i + 3))])) := by
  unfold z_nc
  rw [z_c22, z_ext_in E b f (q := 22) (i := i) (by decide), z_ext_in E b f (q := 23) (i := i) (by decide)]
  rfl
theorem z_nc23 (E : zE) (b : Nat) (f : Nat → Nat) (σ : zS) (i : Nat) : z_nc E b f σ (23, b + 1, i) = (f (80 + 4 * i + 3), .inl (z_cy E 0, 20, .inl (fun _ => 0))) := by
  unfold z_nc
  rw [z_c23, z_new_in σ (b + 1) (by decide) (by decide), z_ext_in E b f (q := 23) (i := i) (by decide)]
  rfl
theorem z_ncW (E : zE) (b : Nat) (f : Nat → Nat) (σ : zS) : (z_idW (b + 1)).map (z_nc E b f σ) = zu_W E f := by
  have eK : (List.range 7).flatMap (fun i => List.map (z_nc E b f σ) [(10, b + 1, i), (11, b + 1, i), (12, b + 1, i), (13, b + 1, i), (14, b + 1, i), (15, b + 1, i), (16, b + 1, i), (17, b + 1, i), (18, b + 1, i), (19, b + 1, i)]) = (List.range 7).flatMap (fun i => zu_K E (fun q => f (10 + 10 * i + q))) := z_flat_congr (fun i _ => by
    simp only [List.map_cons, List.map_nil, z_nc10, z_nc11, z_nc12, z_nc13, z_nc14, z_nc15, z_nc16, z_nc17, z_nc18, z_nc19]
    rfl)
  have eL : (List.range 41).flatMap (fun j => List.map (z_nc E b f σ) [(20, b + 1, j), (21, b + 1, j), (22, b + 1, j), (23, b + 1, j)]) = (List.range 41).flatMap (fun j => zu_L E (fun q => zu_Pf f (10 + 4 * j + q))) := z_flat_congr (fun j _ => by
    simp only [List.map_cons, List.map_nil, z_nc20, z_nc21, z_nc22, z_nc23]
    have e2 : (fun q => zu_Pf f (10 + 4 * j + q)) = (fun q => f (80 + 4 * j + q)) := funext fun q => by
      unfold zu_Pf
      rw [if_neg (by omega), show 10 + 4 * j + q + 70 = 80 + 4 * j + q by omega]
    rw [e2]
    rfl)
  have eA : (fun j => some (f (80 + 4 * j + 0))) = (fun j => some (zu_Pf f (10 + 4 * j))) := funext fun j => by
    unfold zu_Pf
    rw [if_neg (by omega), show 10 + 4 * j + 70 = 80 + 4 * j + 0 by omega]
  unfold z_idW
  simp only [List.map_cons, List.map_append, List.map_flatMap, List.map_nil, z_nc0, z_nc1, z_nc2, z_nc3, z_nc4, z_nc5, z_nc6, z_nc7, z_nc8]
  rw [eA]
  have eK2 := eK
  have eL2 := eL
  simp only [List.map_cons, List.map_nil] at eK2 eL2
  rw [eK2, eL2]
  rfl
theorem z_cell_ext {E : zE} {b : Nat} {f : Nat → Nat} {r : Nat → Int32} {h : Nat → Int64} {a : zJ} (h1 : a.2.1 ≠ b + 1) (h2 : a.1 ≠ 36) : z_cell (z_ext E b f) r h a = z_cell E r h a := by
  have hA : ∀ q i : Nat, z_ad (z_ext E b f) (q, a.2.1, i) = z_ad E (q, a.2.1, i) := fun q i => if_neg (fun hh => h1 hh.2)
  have hB : ∀ q i : Nat, z_ad (z_ext E b f) (q, 0, i) = z_ad E (q, 0, i) := fun q i => if_neg (fun hh => Nat.succ_ne_zero b (show b + 1 = 0 from hh.2.symm))
  have hC : ∀ q : Nat, z_cy (z_ext E b f) q = z_cy E q := fun q => rfl
  unfold z_cell z_nx
  simp only [hA, hB, hC, if_neg h2]
theorem z_new_out {σ : zS} {w : Nat} {a : zJ} (h : a.2.1 ≠ w) : (z_new σ w).1 a = σ.1 a := if_neg (fun hh => h hh.2)
def z_Fr (E : zE) (b : Nat) : Prop := ∀ a ∈ z_ids E, a.2.1 ≠ b + 1 ∧ (a.1 = 36 → a = (36, 0, 0))
theorem z_ext_ws {E : zE} {σ : zS} {A : Nat → Prop} {b k0 : Nat} {f : Nat → Nat} (hD : va_D A (z_ws E σ)) (hfr : z_Fr E b) (hk : (z_ids E)[k0]? = some (36, 0, 0)) : (z_ws E σ ++ zu_W E f).set k0 (z_ad E (36, 0, 0), .inl (z_cy E 6, 3, .inr (.inr (.inr (.inr (va_up (z_bx E) b (some (f 0)))))))) = z_ws (z_ext E b f) (z_new σ (b + 1)) := by
  have hlt : k0 < (z_ws E σ).length := by
    rw [z_ws, List.length_map]
    exact (List.getElem?_eq_some_iff.mp hk).1
  rw [List.set_append_left _ _ hlt]
  have e2 : z_ws (z_ext E b f) (z_new σ (b + 1)) = (z_ids E).map (z_nc E b f σ) ++ (z_idW (b + 1)).map (z_nc E b f σ) := by
    show (z_ids E ++ z_idW (b + 1)).map (z_nc E b f σ) = _
    rw [List.map_append]
  rw [e2, z_ncW]
  congr 1
  apply List.ext_getElem?
  intro j
  by_cases hj : k0 = j
  · subst hj
    rw [List.getElem?_set_self hlt, List.getElem?_map, hk]
    rfl
  · rw [List.getElem?_set_ne hj]
    simp only [z_ws, List.getElem?_map]
    cases ha : (z_ids E)[j]? with
    | none => rfl
    | some a =>
      have hm := List.mem_of_getElem? ha
      have hne : a ≠ (36, 0, 0) := by
        intro e1
        subst e1
        refine hj (hD.1 k0 j (z_ad E (36, 0, 0), z_cell E (σ.1 (36, 0, 0)) (σ.2 (36, 0, 0)) (36, 0, 0)) (z_ad E (36, 0, 0), z_cell E (σ.1 (36, 0, 0)) (σ.2 (36, 0, 0)) (36, 0, 0)) ?_ ?_ rfl)
        · simp only [z_ws, List.getElem?_map, hk, Option.map_some]
        · simp only [z_ws, List.getElem?_map, ha, Option.map_some]
      have h3 := (hfr a hm).1
      have h4 : a.1 ≠ 36 := fun e1 => hne ((hfr a hm).2 e1)
      simp only [Option.map_some, z_nc, z_cell_ext h3 h4, z_new_out h3]
      congr 2
      exact (if_neg (fun hh => h3 hh.2)).symm
theorem z_ext_W {E : zE} {b : Nat} {f : Nat → Nat} {w : Nat} (h : z_W E w) : z_W (z_ext E b f) w := ⟨fun q hq => List.mem_append_left _ (h.1 q hq), fun i hi q h1 h2 => List.mem_append_left _ (h.2.1 i hi q h1 h2), fun i hi q h1 h2 => List.mem_append_left _ (h.2.2 i hi q h1 h2)⟩
theorem z_ext_B {E : zE} {b : Nat} {f : Nat → Nat} (h : z_B E) : z_B (z_ext E b f) := fun q h1 h2 => List.mem_append_left _ (h q h1 h2)
theorem z_idW_W (w : Nat) : (∀ q : Nat, q ≤ 8 → ((q, w, 0) : zJ) ∈ z_idW w) ∧ (∀ i : Nat, i < 7 → ∀ q : Nat, 10 ≤ q → q ≤ 19 → ((q, w, i) : zJ) ∈ z_idW w) ∧ (∀ i : Nat, i < 41 → ∀ q : Nat, 20 ≤ q → q ≤ 23 → ((q, w, i) : zJ) ∈ z_idW w) := by
  refine ⟨fun q hq => ?_, fun i hi q h1 h2 => ?_, fun i hi q h1 h2 => ?_⟩
  · have : q = 0 ∨ q = 1 ∨ q = 2 ∨ q = 3 ∨ q = 4 ∨ q = 5 ∨ q = 6 ∨ q = 7 ∨ q = 8 := by omega
    rcases this with rfl | rfl | rfl | rfl | rfl | rfl | rfl | rfl | rfl <;> simp [z_idW]
  · have h3 : ((q, w, i) : zJ) ∈ (List.range 7).flatMap (fun i => [(10, w, i), (11, w, i), (12, w, i), (13, w, i), (14, w, i), (15, w, i), (16, w, i), (17, w, i), (18, w, i), (19, w, i)]) := by
      refine List.mem_flatMap.mpr ⟨i, List.mem_range.mpr hi, ?_⟩
      have : q = 10 ∨ q = 11 ∨ q = 12 ∨ q = 13 ∨ q = 14 ∨ q = 15 ∨ q = 16 ∨ q = 17 ∨ q = 18 ∨ q = 19 := by omega
      rcases this with rfl | rfl | rfl | rfl | rfl | rfl | rfl | rfl | rfl | rfl <;> simp
    exact List.mem_cons_of_mem _ (List.mem_cons_of_mem _ (List.mem_append_left _ (List.mem_append_left _ h3)))
  · have h3 : ((q, w, i) : zJ) ∈ (List.range 41).flatMap (fun j => [(20, w, j), (21, w, j), (22, w, j), (23, w, j)]) := by
      refine List.mem_flatMap.mpr ⟨i, List.mem_range.mpr hi, ?_⟩
      have : q = 20 ∨ q = 21 ∨ q = 22 ∨ q = 23 := by omega
      rcases this with rfl | rfl | rfl | rfl <;> simp
    exact List.mem_cons_of_mem _ (List.mem_cons_of_mem _ (List.mem_append_left _ (List.mem_append_right _ (List.mem_cons_of_mem _ (List.mem_cons_of_mem _ h3)))))
theorem z_ext_Wn (E : zE) (b : Nat) (f : Nat → Nat) : z_W (z_ext E b f) (b + 1) := ⟨fun q hq => List.mem_append_right _ ((z_idW_W (b + 1)).1 q hq), fun i hi q h1 h2 => List.mem_append_right _ ((z_idW_W (b + 1)).2.1 i hi q h1 h2), fun i hi q h1 h2 => List.mem_append_right _ ((z_idW_W (b + 1)).2.2 i hi q h1 h2)⟩
def z_bl1 (bl : Nat → Bool) (b : Nat) : Nat → Bool := fun j => if j = b then true else bl j
theorem z_ext_Bl {E : zE} {bl : Nat → Bool} {b : Nat} {f : Nat → Nat} (h : z_Bl E bl) : z_Bl (z_ext E b f) (z_bl1 bl b) := by
  intro j hj
  by_cases e1 : j = b
  · subst e1
    refine ⟨fun _ => ⟨?_, z_ext_Wn E j f⟩, fun hh => ?_⟩
    · show (if j = j then some (f 0) else z_bx E j) = some (z_ad (z_ext E j f) (0, j + 1, 0))
      rw [if_pos rfl, z_ext_in E j f (by decide)]
      rfl
    · rw [z_bl1, if_pos rfl] at hh
      cases hh
  · have h1 : z_bl1 bl b j = bl j := if_neg e1
    have h2 : z_bx (z_ext E b f) j = z_bx E j := if_neg e1
    have h3 : z_ad (z_ext E b f) (0, j + 1, 0) = z_ad E (0, j + 1, 0) := if_neg (fun hh => e1 (Nat.succ.inj hh.2))
    rw [h1, h2, h3]
    exact ⟨fun hh => ⟨((h j hj).1 hh).1, z_ext_W ((h j hj).1 hh).2⟩, (h j hj).2⟩
theorem zr_mq {p : Program} {l : Launch} {e : Env} {R : Room} {s : State} {m : MethodId} {args : Array Value} {below : List Frame} {meth : Method} {c : Code} {H : Heap} {locs : List Loc} {cells slots mc ms : Nat} {g : JFrame} {free : Addr → Prop} {Q1 Q2 : Array Value → State → Outcome → State → Prop} (h : ∀ o t, Q1 args s o t → Q2 args s o t) (k : W p l e R s m args below meth c H locs cells slots (MQ below Q1 args s mc ms free) g) : W p l e R s m args below meth c H locs cells slots (MQ below Q2 args s mc ms free) g := by
  intro T hT X
  obtain ⟨t, h1, o, h2, h3, h4, h5⟩ := k T hT X
  exact ⟨t, h1, o, h2, h3, h o t h4, h5⟩
abbrev z_QN (E : zE) (b : Nat) (ro : Int32) (σo : zS) (A : Nat → Prop) : Array Value → State → Outcome → State → Prop := va_Qi (S := Nat → Nat) (fun r _ => r = ro) (fun f t => va_P E.1 z_cl (z_ws (z_ext E b f) σo) t.heap ∧ va_D A (z_ws (z_ext E b f) σo)) A
set_option maxHeartbeats 4000000 in
set_option maxRecDepth 20000 in
/-- image, where the box's world is made -/
theorem cX_imageN (l : Launch) (E : zE) {bl : Nat → Bool} {x1 r1 : Int32} (hB : z_B E) (hW0 : z_W E 0) (hBl : z_Bl E bl) (hfr : z_Fr E x1.toNatClampNeg) {σ σo : zS} {ro : Int32} (h1 : fX_isBox x1 σ = some (r1, σ)) (hr1 : ¬ r1 = 0) (g : z_in x1 3 = true) (hb0 : bl x1.toNatClampNeg = false) (hf : fX_image_31 (z_bl1 bl x1.toNatClampNeg) x1 (z_new σ (x1.toNatClampNeg + 1)) = some (ro, σo)) (sz : Nat) : Met l yX8_image (.code yX8_image cX8_image 2 (some .int) :: z_wl) (z_rmc 13 243 5098) (va_Pc [.ref (z_ad E (30, 0, 0)), .int x1] (fun U => U.heap.size = sz ∧ va_P E.1 z_cl (z_ws E σ) U.heap ∧ z_KA E U ∧ va_D (fun _ => True) (z_ws E σ))) (z_QN E x1.toNatClampNeg ro σo (z_A E sz)) 243 5098 (z_A E sz) := by
  refine Met.ofW (cc := cX8_image) (maxL := 2) (ret := some .int) (by decide) rfl ?_
  intro p e s m args below meth c s₁ B hml hv
  obtain ⟨rfl, hsz, hP, hKA, hD0⟩ := hv
  have hts := atoms_spec (ws := .code yX8_image cX8_image 2 (some .int) :: z_wl) B.pre
  have hown : s.vm.findClass RX8 = some m.cls := findClass_of_methodNamed B.named
  subst hsz
  have hl := lv_entry [.ref (z_ad E (30, 0, 0)), .int x1] (n := 2) (Nat.le_of_ble_eq_true rfl)
  rw [lg_entry_eq]
  generalize (lg_sl ([.ref (z_ad E (30, 0, 0)), .int x1]) ++ List.replicate (2 - (lg_sl ([.ref (z_ad E (30, 0, 0)), .int x1])).length) Slot.unset).toArray = ls at hl ⊢
  have hl : lv_has ls 2 [(0, .ref (z_ad E (30, 0, 0))), (1, .int x1)] := hl
  have C : z_C E RX8 cX8_image 2 (z_A E s.heap.size) p s m #[.ref (z_ad E (30, 0, 0)), .int x1] meth c := ⟨B.exec, B.bytes, hml, hown, fun w hw => hts w (List.mem_cons_of_mem _ hw), hKA.1, fun τ => z_D_A (z_Dall hD0 τ) _, fun q h => Or.inr h, B.notSynchronized⟩
  have hs : z_H E (z_A E s.heap.size) s σ s.heap [] := ⟨hP, va_S.rf⟩
  have hr : meth.sig.returnType = some .int := B.returns
  generalize z_A E s.heap.size = A at C hs ⊢
  have hx := C.1
  have hb := C.2.1
  refine lv_iload_n hx hb dX8_image_0 rfl (lv_at hl 1 rfl) ?_
  refine zr_goI C hs (zr_runS C hs hl.1 (cX_isBox l E h1) zcS_RX8_224 rfl rfl ⟨Nat.le_of_ble_eq_true rfl, Nat.le_of_ble_eq_true rfl⟩ ⟨Nat.le_of_ble_eq_true rfl, Nat.le_of_ble_eq_true rfl⟩ (Nat.le_of_ble_eq_true rfl) dX8_image_1) (fun H locs hs _ _ => ?_)
  refine lv_if_ne (tgt := 9) hx hb dX8_image_4 (by decide) (fun _ => ?_) (fun hc => absurd hc hr1)
  refine lv_aload_n hx hb dX8_image_9 rfl (lv_at hl 0 rfl) ?_
  refine zg_X_boxes C hs (hB 30 (by decide) (by decide)) z_k344 dX8_image_10 ?_
  refine lv_iload_n hx hb dX8_image_13 rfl (lv_at hl 1 rfl) ?_
  refine z_aald C hs (hB 36 (by decide) (by decide)) (z_c36 E _ _ _ _) (t0 := 6) rfl g (v := .null) (by rw [(hBl _ (z_in_lt g)).2 hb0]; rfl) dX8_image_14 ?_
  refine lv_ifnonnullN hx hb dX8_image_15 ?_
  refine lv_aload_n hx hb dX8_image_18 rfl (lv_at hl 0 rfl) ?_
  refine zg_X_boxes C hs (hB 30 (by decide) (by decide)) z_k344 dX8_image_19 ?_
  refine lv_iload_n hx hb dX8_image_22 rfl (lv_at hl 1 rfl) ?_
  have Cn : zn_C E RX8 cX8_image 2 A p s m #[.ref (z_ad E (30, 0, 0)), .int x1] meth c := ⟨C.1, C.2.1, C.2.2.1, C.2.2.2.1, C.2.2.2.2.1, hKA, C.2.2.2.2.2.2.2.1, C.2.2.2.2.2.2.2.2⟩
  have hsn : zn_H E A s (z_ws E σ) H locs := ⟨hs.1, C.2.2.2.2.2.2.1 σ, hs.2⟩
  refine zn_new Cn hsn z_iX7 tyX7 tyX7_ok z_k71 z_k72 z_k3 (ci := 7) rfl zd_X7 (Nat.le_of_ble_eq_true rfl) (Nat.le_of_ble_eq_true rfl) dX8_image_23 dX8_image_26 (fun q1 H hsn => ?_)
  refine zn_callI Cn hl.1 (cn_W l E) hsn ⟨rfl, rfl⟩ z_k73 z_k74 z_k3 z_k75 (by decide +kernel) ⟨Nat.le_of_ble_eq_true rfl, Nat.le_of_ble_eq_true rfl⟩ (Nat.le_of_ble_eq_true rfl) ⟨Nat.le_of_ble_eq_true rfl, Nat.le_of_ble_eq_true rfl⟩ dX8_image_27 (fun fW H locs hq hsN => ?_)
  subst hq
  obtain ⟨k0, hk0, he0⟩ := z_at σ (hB 36 (by decide) (by decide))
  rw [z_c36] at he0
  have hlt : k0 < (z_ws E σ).length := (List.getElem?_eq_some_iff.mp he0).1
  refine va_astq hx hb C.2.2.2.2.2.1.1 hsN.1 hsN.2.1 hsN.2.2 k0 6 ((z_ws E σ).length + 0) 7 (by rw [List.getElem?_append_left hlt]; exact he0) rfl (by rw [List.getElem?_append_right (by omega), show (z_ws E σ).length + 0 - (z_ws E σ).length = 0 by omega]; rfl) rfl (z_in_p g) dX8_image_30 (fun H1 locs1 p1 p2 p3 => ?_)
  rw [z_ext_ws (C.2.2.2.2.2.2.1 σ) hfr hk0] at p1 p2
  have C2 : z_C (z_ext E x1.toNatClampNeg fW) RX8 cX8_image 2 A p s m #[.ref (z_ad E (30, 0, 0)), .int x1] meth c := ⟨C.1, C.2.1, C.2.2.1, C.2.2.2.1, C.2.2.2.2.1, C.2.2.2.2.2.1, fun τ => z_Dall p2 τ, C.2.2.2.2.2.2.2.1, C.2.2.2.2.2.2.2.2⟩
  refine zr_mq (Q1 := z_QI (z_ext E x1.toNatClampNeg fW) ro σo A) (fun o t hh => ?_) (wX_image_31 C2 hr (z_ext_B hB) (z_ext_W hW0) (z_ext_Bl hBl) (Nat.le_of_ble_eq_true rfl) (Nat.le_of_ble_eq_true rfl) ⟨Nat.le_of_ble_eq_true rfl, Nat.le_of_ble_eq_true rfl⟩ x1 _ H1 locs1 ls ⟨p1, p3⟩ hl hf)
  obtain ⟨⟨r, u, q1, q2, q3⟩, q4⟩ := hh
  exact ⟨⟨r, fW, q1, q2, q3, z_Dall p2 σo⟩, q4⟩
