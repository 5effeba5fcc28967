/-! Post() and World(): rows of objects made in a loop -/
theorem z_arrq {cA : ClassId} {n : Nat} {f g : Nat → Option Nat} (h : ∀ j, j < n → f j = g j) : vp_cell cA (n, .inr (.inr (.inr (.inr f)))) = vp_cell cA (n, .inr (.inr (.inr (.inr g)))) := by
  rw [vp_cell_q, vp_cell_q]
  unfold arrV
  congr 1
  apply Array.ext
  · simp
  · intro i h1 h2
    have h3 : i < n := by simpa using h1
    simp [h i h3]
def zg_q (F : Nat → Nat → Nat) (k : Nat) : Nat → Option Nat := fun j => if j < k then some (F j 0) else none
def z_F (F : Nat → Nat → Nat) (k : Nat) (f : Nat → Nat) : Nat → Nat → Nat := fun j => if j = k then f else F j
theorem zg_q_up (F : Nat → Nat → Nat) (k : Nat) (f : Nat → Nat) : va_up (zg_q F k) k (some (f 0)) = zg_q (z_F F k f) (k + 1) := by
  funext j
  unfold va_up zg_q z_F
  by_cases h1 : j = k
  · subst h1
    rw [if_pos rfl, if_pos (by omega), if_pos rfl]
  · rw [if_neg h1, if_neg h1]
    by_cases h2 : j < k
    · rw [if_pos h2, if_pos (by omega)]
    · rw [if_neg h2, if_neg (by omega)]
def zu_Ls (E : zE) (F : Nat → Nat → Nat) (k : Nat) : va_W := (List.range k).flatMap (fun j => zu_L E (F j))
def zu_Ks (E : zE) (F : Nat → Nat → Nat) (k : Nat) : va_W := (List.range k).flatMap (fun j => zu_K E (F j))
theorem z_flat_congr {α β : Type} {l : List α} {f g : α → List β} (h : ∀ a ∈ l, f a = g a) : l.flatMap f = l.flatMap g := by
  induction l with
  | nil => rfl
  | cons a t ih =>
    rw [List.flatMap_cons, List.flatMap_cons, h a (List.mem_cons_self ..), ih (fun b hb => h b (List.mem_cons_of_mem _ hb))]
theorem zu_Ls_s (E : zE) (F : Nat → Nat → Nat) (k : Nat) (f : Nat → Nat) : zu_Ls E F k ++ zu_L E f = zu_Ls E (z_F F k f) (k + 1) := by
  unfold zu_Ls
  rw [List.range_succ, List.flatMap_append, List.flatMap_singleton]
  congr 1
  · exact z_flat_congr (fun j hj => by rw [z_F, if_neg (Nat.ne_of_lt (List.mem_range.mp hj))])
  · rw [z_F, if_pos rfl]
theorem zu_Ks_s (E : zE) (F : Nat → Nat → Nat) (k : Nat) (f : Nat → Nat) : zu_Ks E F k ++ zu_K E f = zu_Ks E (z_F F k f) (k + 1) := by
  unfold zu_Ks
  rw [List.range_succ, List.flatMap_append, List.flatMap_singleton]
  congr 1
  · exact z_flat_congr (fun j hj => by rw [z_F, if_neg (Nat.ne_of_lt (List.mem_range.mp hj))])
  · rw [z_F, if_pos rfl]
theorem zu_L_c {E : zE} {f g : Nat → Nat} (h : ∀ q, q < 4 → f q = g q) : zu_L E f = zu_L E g := by
  unfold zu_L
  rw [h 0 (by decide), h 1 (by decide), h 2 (by decide), h 3 (by decide)]
theorem zu_K_c {E : zE} {f g : Nat → Nat} (h : ∀ q, q < 10 → f q = g q) : zu_K E f = zu_K E g := by
  unfold zu_K
  rw [h 0 (by decide), h 1 (by decide), h 2 (by decide), h 3 (by decide), h 4 (by decide), h 5 (by decide), h 6 (by decide), h 7 (by decide), h 8 (by decide), h 9 (by decide)]
theorem zu_R_c {E : zE} {f g : Nat → Nat} (h : ∀ q, q < 5 → f q = g q) : zu_R E f = zu_R E g := by
  unfold zu_R
  rw [h 0 (by decide), h 1 (by decide), h 2 (by decide), h 3 (by decide), h 4 (by decide)]
def zu_P (E : zE) (f : Nat → Nat) : va_W := (f 0, .inr (3, [.ref (f 1), .ref (f 170)])) :: (f 1, .inl (z_cy E 5, 40, .inr (.inr (.inr (.inr (fun j => some (f (10 + 4 * j)))))))) :: (List.range 41).flatMap (fun j => zu_L E (fun q => f (10 + 4 * j + q)))
def zu_Pf (f : Nat → Nat) : Nat → Nat := fun k => if k < 2 then f (2 + k) else f (k + 70)
def zu_W (E : zE) (f : Nat → Nat) : va_W := (f 0, .inr (7, [.ref (f 1), .ref (f 2), .ref (f 4), .int 0, .int 0])) :: (f 1, .inl (z_cy E 4, 7, .inr (.inr (.inr (.inr (fun j => some (f (10 + 10 * j)))))))) :: (((List.range 7).flatMap (fun i => zu_K E (fun q => f (10 + 10 * i + q))) ++ zu_P E (zu_Pf f)) ++ zu_R E (fun q => f (4 + q)))
section zn_rows4
variable {p : Program} {l : Launch} {e : Env} {R : Room} {s : State} {m : MethodId} {args : Array Value} {below : List Frame} {meth : Method} {c : Code} {H : Heap} {locs : List Loc} {cells slots : Nat} {Q : State → Prop}
variable {cc : ByteArray} {pc nL : Nat} {ls : Array Slot} {rest : List Value} {E : zE} {A : Nat → Prop} {own : String} {ws : va_W}
theorem zn_get (C : zn_C E own cc nL A p s m args meth c) {h0 ci N index : Nat} {fs : List Value} {T : u_T} (hs : zn_H E A s ((h0, .inr (ci, fs)) :: ws) H locs) (hc : z_cl[ci]? = some (own, T, N)) (hin : ∀ w ∈ u_ws own T N, w ∈ z_wl) (k : Nat) (hk : k < N) (hl : Cond.fieldLink own index (T k).1 (T k).2.1 (T k).2.2.1 ∈ z_wl) {v : Value} (hv : fs[k]? = some v) (hdg : decode cc pc = .ok (.getfield index, 3))
    (kk : W p l e R s m args below meth c H locs cells slots Q (F0 m (pc + 3) ls (v :: rest))) : W p l e R s m args below meth c H locs cells slots Q (F0 m pc ls (.ref h0 :: rest)) := by
  obtain ⟨hex, hb, hml, hown, hts, hK, hA, -⟩ := C
  exact va_get hex hb hts hin hown hK.1.1 hs.1 0 rfl hc k hk (hts _ hl) (fun _ h => h) hv hdg kk
theorem zn_ast (C : zn_C E own cc nL A p s m args meth c) {x : Nat × va_E} {a n t0 v ci k : Nat} {cA : ClassId} {f : Nat → Option Nat} {r : vw_C} {vs : List Value} (hs : zn_H E A s (x :: (a, .inl (cA, n, .inr (.inr (.inr (.inr f))))) :: ws) H locs) (ht : (z_ty E)[t0]? = some (cA, .object r.1)) (hv : (v, .inr (ci, vs)) ∈ ws) (hc : z_cl[ci]? = some r) {i : Int32} (hin : vp_in i n) (hk : i.toNatClampNeg = k) (hdg : decode cc pc = .ok (.aastore, 1))
    (kk : ∀ (H : Heap) (locs : List Loc), zn_H E A s (x :: (a, .inl (cA, n, .inr (.inr (.inr (.inr (va_up f k (some v))))))) :: ws) H locs → W p l e R s m args below meth c H locs cells slots Q (F0 m (pc + 1) ls rest)) : W p l e R s m args below meth c H locs cells slots Q (F0 m pc ls (.ref v :: .int i :: .ref a :: rest)) := by
  obtain ⟨hex, hb, hml, hown, hts, hK, hA, -⟩ := C
  subst hk
  obtain ⟨j, hj⟩ := List.getElem?_of_mem hv
  exact va_astq hex hb hK.1.1 hs.1 hs.2.1 hs.2.2 1 t0 (j + 2) ci rfl ht hj hc hin hdg (fun H1 locs1 h1 h2 h3 => kk H1 locs1 ⟨h1, h2, h3⟩)
theorem zn_retP {h0 : Nat} {w : (Nat → Nat) → va_W} (C : zn_C E own cc nL A p s m args meth c) (hr : meth.sig.returnType = none) (hS : va_S A s.heap H locs) (f : Nat → Nat) (h : f 0 = h0) (hP : va_P E.1 z_cl (w f) H) (hn : va_D A (w f)) (hdg : decode cc pc = .ok (.return_, 1)) : W p l e R s m args below meth c H locs cells slots (MQ below (va_Qv (S := Nat → Nat) (fun f => f 0 = h0) (fun f t => va_P E.1 z_cl (w f) t.heap ∧ va_D A (w f)) A) args s cells slots A) (F0 m pc ls []) :=
  W.vret C.1 C.2.1 hr (fun t ht _ => ⟨⟨f, rfl, h, by rw [ht]; exact hP, hn⟩, hS.F ht⟩) hS.2.2 hdg C.2.2.2.2.2.2.2
/-- an array of references told by another function that agrees on its places -/
theorem zn_swap {x : Nat × va_E} {a n : Nat} {cA : ClassId} {f g : Nat → Option Nat} (hs : zn_H E A s (x :: (a, .inl (cA, n, .inr (.inr (.inr (.inr f))))) :: ws) H locs) (h : ∀ j, j < n → f j = g j) : zn_H E A s (x :: (a, .inl (cA, n, .inr (.inr (.inr (.inr g))))) :: ws) H locs := by
  refine ⟨fun k q hk => ?_, ⟨fun i j y z hi hj => ?_, fun k q hk => ?_⟩, hs.2.2⟩
  · match k, hk with
    | 0, hk => exact hs.1 0 q hk
    | 1, hk =>
      cases hk
      have h1 := hs.1 1 _ rfl
      show H[a]? = some (vp_cell _ _)
      rw [← z_arrq h]
      exact h1
    | k + 2, hk => exact hs.1 (k + 2) q hk
  · have key : ∀ {k : Nat} {q : Nat × va_E}, (x :: (a, .inl (cA, n, .inr (.inr (.inr (.inr g))))) :: ws)[k]? = some q → ∃ q' : Nat × va_E, (x :: (a, .inl (cA, n, .inr (.inr (.inr (.inr f))))) :: ws)[k]? = some q' ∧ q'.1 = q.1 := by
      intro k q hk
      match k, hk with
      | 0, hk => exact ⟨q, hk, rfl⟩
      | 1, hk => cases hk; exact ⟨_, rfl, rfl⟩
      | k + 2, hk => exact ⟨q, hk, rfl⟩
    obtain ⟨y1, a1, b1⟩ := key hi
    obtain ⟨z1, a2, b2⟩ := key hj
    exact fun e1 => hs.2.1.1 i j y1 z1 a1 a2 (by rw [b1, b2, e1])
  · match k, hk with
    | 0, hk => exact hs.2.1.2 0 q hk
    | 1, hk => cases hk; exact hs.2.1.2 1 (a, .inl (cA, n, .inr (.inr (.inr (.inr f))))) rfl
    | k + 2, hk => exact hs.2.1.2 (k + 2) q hk
set_option maxHeartbeats 4000000 in
set_option maxRecDepth 20000 in
theorem np_loop {h0 q0 : Nat} (C : zn_C E RX3 cX3_init 2 A p s m args meth c) (kk : ∀ (F : Nat → Nat → Nat) (H : Heap) (locs : List Loc) (ls : Array Slot), zn_H E A s ((h0, .inr (3, [.ref q0, .null])) :: (q0, .inl (z_cy E 5, 40, .inr (.inr (.inr (.inr (zg_q F 40)))))) :: zu_Ls E F 40) H locs → lv_has ls 2 [(1, .int (nI 40)), (0, .ref h0)] → W p l e (z_rmc 3 165 2623) s m args below meth c H locs 161 2560 Q (F0 m 40 ls [])) (n : Nat) : ∀ (k : Nat) (F : Nat → Nat → Nat) (H : Heap) (locs : List Loc) (ls : Array Slot), k + n = 40 → zn_H E A s ((h0, .inr (3, [.ref q0, .null])) :: (q0, .inl (z_cy E 5, 40, .inr (.inr (.inr (.inr (zg_q F k)))))) :: zu_Ls E F k) H locs → lv_has ls 2 [(1, .int (nI k)), (0, .ref h0)] → W p l e (z_rmc 3 165 2623) s m args below meth c H locs (1 + 4 * k) (40 + 63 * k) Q (F0 m 15 ls []) := by
  have hx := C.1
  have hb := C.2.1
  induction n with
  | zero =>
    intro k F H locs ls hk hs hl
    have hk : k = 40 := by omega
    subst hk
    refine lv_iload_n hx hb dX3_init_15 rfl (lv_at hl 0 rfl) ?_
    refine lv_bipush (v := 40) hx hb dX3_init_16 (by decide) ?_
    refine lv_icmp_ge (tgt := 40) hx hb dX3_init_18 (by decide) (fun _ => kk F H locs ls hs hl) (fun hc => absurd (by decide +kernel) hc)
  | succ n ih =>
    intro k F H locs ls hk hs hl
    refine lv_iload_n hx hb dX3_init_15 rfl (lv_at hl 0 rfl) ?_
    refine lv_bipush (v := 40) hx hb dX3_init_16 (by decide) ?_
    refine lv_icmp_ge (tgt := 40) hx hb dX3_init_18 (by decide) (fun hc => absurd hc (nI_ge (b := 40) (by omega) (by decide))) (fun _ => ?_)
    refine lv_aload_n hx hb dX3_init_21 rfl (lv_at hl 1 rfl) ?_
    refine zn_get C hs rfl z_iX3 0 (by decide) z_k244 rfl dX3_init_22 ?_
    refine lv_iload_n hx hb dX3_init_25 rfl (lv_at hl 0 rfl) ?_
    refine zn_new C hs z_iX2 tyX2 tyX2_ok z_k184 z_k186 z_k7 (ci := 2) rfl zd_X2 (by show _ + 1 ≤ 165; omega) (by show _ + 12 ≤ 2623; omega) dX3_init_26 dX3_init_29 (fun q1 H hs => ?_)
    refine zn_callN C hl.1 (cn_L l E) hs ⟨rfl, rfl⟩ z_n187 z_k188 z_k7 z_k189 (by decide +kernel) ⟨Nat.le_of_ble_eq_true rfl, Nat.le_of_ble_eq_true rfl⟩ (Nat.le_of_ble_eq_true rfl) ⟨by show _ + 3 ≤ 165; omega, by show _ + 51 ≤ 2623; omega⟩ dX3_init_30 (fun fL H locs hq hsN => ?_)
    subst hq
    have hs : zn_H E A s ((h0, .inr (3, [.ref q0, .null])) :: (q0, .inl (z_cy E 5, 40, .inr (.inr (.inr (.inr (zg_q F k)))))) :: (zu_Ls E F k ++ zu_L E fL)) H locs := hsN
    refine zn_ast C hs (t0 := 5) rfl (List.mem_append_right _ (List.mem_cons_self ..)) (ci := 2) rfl (vp_in_nI (by omega) (by decide)) (nI_clamp (by omega)) dX3_init_33 (fun H locs hs => ?_)
    rw [zg_q_up, zu_Ls_s] at hs
    refine lv_iinc (v := nI (k + 1)) (lv' := [(1, .int (nI (k + 1))), (0, .ref h0)]) hx hb dX3_init_34 hl (k := 0) rfl (nI_1 k) (by decide) rfl (fun ls hl => ?_)
    refine lv_goto (tgt := 15) hx hb dX3_init_37 (by decide) ?_
    exact W.widen (k := 1 + 4 * (k + 1)) (n := 40 + 63 * (k + 1)) (by omega) (by omega) (ih (k + 1) (z_F F k fL) H locs ls (by omega) hs hl)
set_option maxHeartbeats 4000000 in
set_option maxRecDepth 20000 in
theorem nw_loop {h0 q0 : Nat} (C : zn_C E RX7 cX7_init 2 A p s m args meth c) (kk : ∀ (F : Nat → Nat → Nat) (H : Heap) (locs : List Loc) (ls : Array Slot), zn_H E A s ((h0, .inr (7, [.ref q0, .null, .null, .int 0, .int 0])) :: (q0, .inl (z_cy E 4, 7, .inr (.inr (.inr (.inr (zg_q F 7)))))) :: zu_Ks E F 7) H locs → lv_has ls 2 [(1, .int (nI 7)), (0, .ref h0)] → W p l e (z_rmc 4 242 5093) s m args below meth c H locs 71 2303 Q (F0 m 40 ls [])) (n : Nat) : ∀ (k : Nat) (F : Nat → Nat → Nat) (H : Heap) (locs : List Loc) (ls : Array Slot), k + n = 7 → zn_H E A s ((h0, .inr (7, [.ref q0, .null, .null, .int 0, .int 0])) :: (q0, .inl (z_cy E 4, 7, .inr (.inr (.inr (.inr (zg_q F k)))))) :: zu_Ks E F k) H locs → lv_has ls 2 [(1, .int (nI k)), (0, .ref h0)] → W p l e (z_rmc 4 242 5093) s m args below meth c H locs (1 + 10 * k) (7 + 328 * k) Q (F0 m 15 ls []) := by
  have hx := C.1
  have hb := C.2.1
  induction n with
  | zero =>
    intro k F H locs ls hk hs hl
    have hk : k = 7 := by omega
    subst hk
    refine lv_iload_n hx hb dX7_init_15 rfl (lv_at hl 0 rfl) ?_
    refine lv_bipush (v := 7) hx hb dX7_init_16 (by decide) ?_
    refine lv_icmp_ge (tgt := 40) hx hb dX7_init_18 (by decide) (fun _ => kk F H locs ls hs hl) (fun hc => absurd (by decide +kernel) hc)
  | succ n ih =>
    intro k F H locs ls hk hs hl
    refine lv_iload_n hx hb dX7_init_15 rfl (lv_at hl 0 rfl) ?_
    refine lv_bipush (v := 7) hx hb dX7_init_16 (by decide) ?_
    refine lv_icmp_ge (tgt := 40) hx hb dX7_init_18 (by decide) (fun hc => absurd hc (nI_ge (b := 7) (by omega) (by decide))) (fun _ => ?_)
    refine lv_aload_n hx hb dX7_init_21 rfl (lv_at hl 1 rfl) ?_
    refine zn_get C hs rfl z_iX7 0 (by decide) z_k281 rfl dX7_init_22 ?_
    refine lv_iload_n hx hb dX7_init_25 rfl (lv_at hl 0 rfl) ?_
    refine zn_new C hs z_iX1 tyX1 tyX1_ok z_k77 z_k79 z_k4 (ci := 1) rfl zd_X1 (by show _ + 1 ≤ 242; omega) (by show _ + 18 ≤ 5093; omega) dX7_init_26 dX7_init_29 (fun q1 H hs => ?_)
    refine zn_callN C hl.1 (cn_K l E) hs ⟨rfl, rfl⟩ z_n80 z_k81 z_k4 z_k82 (by decide +kernel) ⟨Nat.le_of_ble_eq_true rfl, Nat.le_of_ble_eq_true rfl⟩ (Nat.le_of_ble_eq_true rfl) ⟨by show _ + 9 ≤ 242; omega, by show _ + 310 ≤ 5093; omega⟩ dX7_init_30 (fun fL H locs hq hsN => ?_)
    subst hq
    have hs : zn_H E A s ((h0, .inr (7, [.ref q0, .null, .null, .int 0, .int 0])) :: (q0, .inl (z_cy E 4, 7, .inr (.inr (.inr (.inr (zg_q F k)))))) :: (zu_Ks E F k ++ zu_K E fL)) H locs := hsN
    refine zn_ast C hs (t0 := 4) rfl (List.mem_append_right _ (List.mem_cons_self ..)) (ci := 1) rfl (vp_in_nI (by omega) (by decide)) (nI_clamp (by omega)) dX7_init_33 (fun H locs hs => ?_)
    rw [zg_q_up, zu_Ks_s] at hs
    refine lv_iinc (v := nI (k + 1)) (lv' := [(1, .int (nI (k + 1))), (0, .ref h0)]) hx hb dX7_init_34 hl (k := 0) rfl (nI_1 k) (by decide) rfl (fun ls hl => ?_)
    refine lv_goto (tgt := 15) hx hb dX7_init_37 (by decide) ?_
    exact W.widen (k := 1 + 10 * (k + 1)) (n := 7 + 328 * (k + 1)) (by omega) (by omega) (ih (k + 1) (z_F F k fL) H locs ls (by omega) hs hl)
end zn_rows4
theorem zu_P_c {E : zE} {f g : Nat → Nat} (h0 : f 0 = g 0) (h1 : f 1 = g 1) (h : ∀ k, 10 ≤ k → f k = g k) : zu_P E f = zu_P E g := by
  have e1 : (fun j => some (f (10 + 4 * j))) = (fun j => some (g (10 + 4 * j))) := funext fun j => congrArg some (h _ (by omega))
  have e2 : (List.range 41).flatMap (fun j => zu_L E (fun q => f (10 + 4 * j + q))) = (List.range 41).flatMap (fun j => zu_L E (fun q => g (10 + 4 * j + q))) := z_flat_congr (fun j _ => zu_L_c (fun q _ => h _ (by omega)))
  unfold zu_P
  rw [e1, e2, h0, h1, h 170 (by decide)]
def z_bigP (h0 q0 : Nat) (F : Nat → Nat → Nat) : Nat → Nat := fun k => if k = 0 then h0 else if k = 1 then q0 else F ((k - 10) / 4) ((k - 10) % 4)
theorem z_bigP_e (h0 q0 : Nat) (F : Nat → Nat → Nat) (j q : Nat) (hq : q < 4) : z_bigP h0 q0 F (10 + 4 * j + q) = F j q := by
  unfold z_bigP
  rw [if_neg (by omega), if_neg (by omega), show (10 + 4 * j + q - 10) / 4 = j by omega, show (10 + 4 * j + q - 10) % 4 = q by omega]
theorem zu_P_of (E : zE) (h0 q0 : Nat) (F : Nat → Nat → Nat) : zu_P E (z_bigP h0 q0 F) = (h0, .inr (3, [.ref q0, .ref (F 40 0)])) :: (q0, .inl (z_cy E 5, 40, .inr (.inr (.inr (.inr (fun j => some (F j 0))))))) :: zu_Ls E F 41 := by
  have e1 : (fun j => some (z_bigP h0 q0 F (10 + 4 * j))) = (fun j => some (F j 0)) := funext fun j => congrArg some (z_bigP_e h0 q0 F j 0 (by decide))
  have e2 : (List.range 41).flatMap (fun j => zu_L E (fun q => z_bigP h0 q0 F (10 + 4 * j + q))) = (List.range 41).flatMap (fun j => zu_L E (F j)) := z_flat_congr (fun j _ => zu_L_c (fun q hq => z_bigP_e h0 q0 F j q hq))
  have e3 : z_bigP h0 q0 F 170 = F 40 0 := z_bigP_e h0 q0 F 40 0 (by decide)
  unfold zu_P zu_Ls
  rw [e1, e2, e3]
  rfl
def z_bigW (h0 q0 : Nat) (F : Nat → Nat → Nat) (fP fR : Nat → Nat) : Nat → Nat := fun k => if k = 0 then h0 else if k = 1 then q0 else if k < 4 then fP (k - 2) else if k < 10 then fR (k - 4) else if k < 80 then F ((k - 10) / 10) ((k - 10) % 10) else fP (k - 70)
theorem z_bigW_k (h0 q0 : Nat) (F : Nat → Nat → Nat) (fP fR : Nat → Nat) {i q : Nat} (hi : i < 7) (hq : q < 10) : z_bigW h0 q0 F fP fR (10 + 10 * i + q) = F i q := by
  unfold z_bigW
  rw [if_neg (by omega), if_neg (by omega), if_neg (by omega), if_neg (by omega), if_pos (by omega), show (10 + 10 * i + q - 10) / 10 = i by omega, show (10 + 10 * i + q - 10) % 10 = q by omega]
theorem zu_W_of (E : zE) (h0 q0 : Nat) (F : Nat → Nat → Nat) (fP fR : Nat → Nat) : zu_W E (z_bigW h0 q0 F fP fR) = (h0, .inr (7, [.ref q0, .ref (fP 0), .ref (fR 0), .int 0, .int 0])) :: (q0, .inl (z_cy E 4, 7, .inr (.inr (.inr (.inr (fun j => some (z_bigW h0 q0 F fP fR (10 + 10 * j)))))))) :: ((zu_Ks E F 7 ++ zu_P E fP) ++ zu_R E fR) := by
  have e2 : (List.range 7).flatMap (fun i => zu_K E (fun q => z_bigW h0 q0 F fP fR (10 + 10 * i + q))) = (List.range 7).flatMap (fun i => zu_K E (F i)) := z_flat_congr (fun i hi => zu_K_c (fun q hq => z_bigW_k h0 q0 F fP fR (List.mem_range.mp hi) hq))
  have e3 : zu_P E (zu_Pf (z_bigW h0 q0 F fP fR)) = zu_P E fP := zu_P_c rfl rfl (fun k hk => by
    unfold zu_Pf z_bigW
    rw [if_neg (by omega), if_neg (by omega), if_neg (by omega), if_neg (by omega), if_neg (by omega), if_neg (by omega), show k + 70 - 70 = k by omega])
  have e4 : zu_R E (fun q => z_bigW h0 q0 F fP fR (4 + q)) = zu_R E fR := zu_R_c (fun q hq => by
    show z_bigW h0 q0 F fP fR (4 + q) = fR q
    unfold z_bigW
    rw [if_neg (by omega), if_neg (by omega), if_neg (by omega), if_pos (by omega), show 4 + q - 4 = q by omega])
  unfold zu_W zu_Ks
  rw [e2, e3, e4]
  rfl
set_option maxHeartbeats 4000000 in
set_option maxRecDepth 20000 in
theorem cn_P (l : Launch) (E : zE) : z_N l E yX3_init cX3_init 2 (z_rmc 3 165 2623) 3 [.null, .null] (zu_P E) 165 2623 := by
  refine zn_enter (by decide) (by decide) (fun h0 p e s m below meth c A ls C hr hnm hs hl => ?_)
  have hx := C.1
  have hb := C.2.1
  refine lv_aload_n hx hb dX3_init_0 rfl (lv_at hl 0 rfl) ?_
  refine zn_objInit C hl.1 z_k183 z_k24 z_cOI (Nat.le_of_ble_eq_true rfl) (Nat.le_of_ble_eq_true rfl) dX3_init_1 ?_
  refine lv_aload_n hx hb dX3_init_4 rfl (lv_at hl 0 rfl) ?_
  refine lv_bipush (v := 40) hx hb dX3_init_5 (by decide) ?_
  refine zn_anew C hs z_k184 C.2.2.2.2.2.1.2.2.1 5 rfl 40 (by decide) (by decide +kernel) (by decide) (Nat.le_of_ble_eq_true rfl) (Nat.le_of_ble_eq_true rfl) dX3_init_7 (fun q0 H hs => ?_)
  have hs : zn_H E A s ((h0, .inr (3, [.null, .null])) :: ([] ++ [(q0, .inl (z_cy E 5, 40, .inr (.inr (.inr (.inr (fun _ => none))))))])) H [] := hs
  refine zn_putFe C hnm hs rfl z_iX3 tyX3 tyX3_ok nmX3 0 (by decide) z_k244 (by decide +kernel) rfl (.array (.object "LogKeepers$Letter")) (by decide +kernel) rfl rfl (Nat.le_of_ble_eq_true rfl) rfl dX3_init_10 (fun H locs hs => ?_)
  have hs : zn_H E A s ((h0, .inr (3, [.ref q0, .null])) :: ([] ++ [(q0, .inl (z_cy E 5, 40, .inr (.inr (.inr (.inr (fun _ => none))))))])) H locs := hs
  refine lv_iconst (v := nI 0) hx hb dX3_init_13 (by decide +kernel) ?_
  refine lv_istore_n (lv' := [(1, .int (nI 0)), (0, .ref h0)]) hx hb dX3_init_14 rfl hl (by decide) rfl (fun ls hl => ?_)
  have hs : zn_H E A s ((h0, .inr (3, [.ref q0, .null])) :: (q0, .inl (z_cy E 5, 40, .inr (.inr (.inr (.inr (zg_q (fun _ _ => 0) 0)))))) :: zu_Ls E (fun _ _ => 0) 0) H locs := zn_swap hs (fun j _ => rfl)
  refine np_loop C (fun F H locs ls hs hl => ?_) 40 0 (fun _ _ => 0) H locs ls rfl hs hl
  refine lv_aload_n hx hb dX3_init_40 rfl (lv_at hl 1 rfl) ?_
  refine zn_new C hs z_iX2 tyX2 tyX2_ok z_k184 z_k186 z_k7 (ci := 2) rfl zd_X2 (Nat.le_of_ble_eq_true rfl) (Nat.le_of_ble_eq_true rfl) dX3_init_41 dX3_init_44 (fun q1 H hs => ?_)
  refine zn_callN C hl.1 (cn_L l E) hs ⟨rfl, rfl⟩ z_n187 z_k188 z_k7 z_k189 (by decide +kernel) ⟨(Nat.le_of_ble_eq_true rfl), (Nat.le_of_ble_eq_true rfl)⟩ (Nat.le_of_ble_eq_true rfl) ⟨(Nat.le_of_ble_eq_true rfl), (Nat.le_of_ble_eq_true rfl)⟩ dX3_init_45 (fun fL H locs hq hsN => ?_)
  subst hq
  have hs : zn_H E A s ((h0, .inr (3, [.ref q0, .null])) :: (q0, .inl (z_cy E 5, 40, .inr (.inr (.inr (.inr (zg_q F 40)))))) :: (zu_Ls E F 40 ++ zu_L E fL)) H locs := hsN
  rw [zu_Ls_s] at hs
  refine zn_putF C hnm hs rfl z_iX3 tyX3 tyX3_ok nmX3 1 (by decide) z_k247 rfl rfl rfl rfl (Nat.le_of_ble_eq_true rfl) (fs' := [.ref q0, .ref (fL 0)]) rfl dX3_init_48 (fun H locs hs => ?_)
  have hs : zn_H E A s ((h0, .inr (3, [.ref q0, .ref (z_F F 40 fL 40 0)])) :: (q0, .inl (z_cy E 5, 40, .inr (.inr (.inr (.inr (fun j => some (z_F F 40 fL j 0))))))) :: zu_Ls E (z_F F 40 fL) 41) H locs := by
    have h1 := zn_swap hs (g := fun j => some (z_F F 40 fL j 0)) (fun j hj => by
      show (if j < 40 then some (F j 0) else none) = some (z_F F 40 fL j 0)
      rw [if_pos hj, z_F, if_neg (by omega)])
    rw [show z_F F 40 fL 40 0 = fL 0 by rw [z_F, if_pos rfl]]
    exact h1
  rw [← zu_P_of] at hs
  exact zn_retP C hr hs.2.2 (z_bigP h0 q0 (z_F F 40 fL)) rfl hs.1 hs.2.1 dX3_init_51
set_option maxHeartbeats 4000000 in
set_option maxRecDepth 20000 in
theorem cn_W (l : Launch) (E : zE) : z_N l E yX7_init cX7_init 2 (z_rmc 4 242 5093) 7 [.null, .null, .null, .int 0, .int 0] (zu_W E) 242 5093 := by
  refine zn_enter (by decide) (by decide) (fun h0 p e s m below meth c A ls C hr hnm hs hl => ?_)
  have hx := C.1
  have hb := C.2.1
  refine lv_aload_n hx hb dX7_init_0 rfl (lv_at hl 0 rfl) ?_
  refine zn_objInit C hl.1 z_k76 z_k24 z_cOI (Nat.le_of_ble_eq_true rfl) (Nat.le_of_ble_eq_true rfl) dX7_init_1 ?_
  refine lv_aload_n hx hb dX7_init_4 rfl (lv_at hl 0 rfl) ?_
  refine lv_bipush (v := 7) hx hb dX7_init_5 (by decide) ?_
  refine zn_anew C hs z_k77 C.2.2.2.2.2.1.2.1 4 rfl 7 (by decide) (by decide +kernel) (by decide) (Nat.le_of_ble_eq_true rfl) (Nat.le_of_ble_eq_true rfl) dX7_init_7 (fun q0 H hs => ?_)
  have hs : zn_H E A s ((h0, .inr (7, [.null, .null, .null, .int 0, .int 0])) :: ([] ++ [(q0, .inl (z_cy E 4, 7, .inr (.inr (.inr (.inr (fun _ => none))))))])) H [] := hs
  refine zn_putFe C hnm hs rfl z_iX7 tyX7 tyX7_ok nmX7 0 (by decide) z_k281 (by decide +kernel) rfl (.array (.object "LogKeepers$Keeper")) (by decide +kernel) rfl rfl (Nat.le_of_ble_eq_true rfl) rfl dX7_init_10 (fun H locs hs => ?_)
  have hs : zn_H E A s ((h0, .inr (7, [.ref q0, .null, .null, .int 0, .int 0])) :: ([] ++ [(q0, .inl (z_cy E 4, 7, .inr (.inr (.inr (.inr (fun _ => none))))))])) H locs := hs
  refine lv_iconst (v := nI 0) hx hb dX7_init_13 (by decide +kernel) ?_
  refine lv_istore_n (lv' := [(1, .int (nI 0)), (0, .ref h0)]) hx hb dX7_init_14 rfl hl (by decide) rfl (fun ls hl => ?_)
  have hs : zn_H E A s ((h0, .inr (7, [.ref q0, .null, .null, .int 0, .int 0])) :: (q0, .inl (z_cy E 4, 7, .inr (.inr (.inr (.inr (zg_q (fun _ _ => 0) 0)))))) :: zu_Ks E (fun _ _ => 0) 0) H locs := zn_swap hs (fun j _ => rfl)
  refine nw_loop C (fun F H locs ls hs hl => ?_) 7 0 (fun _ _ => 0) H locs ls rfl hs hl
  refine lv_aload_n hx hb dX7_init_40 rfl (lv_at hl 1 rfl) ?_
  refine zn_new C hs z_iX3 tyX3 tyX3_ok z_k178 z_k179 z_k6 (ci := 3) rfl zd_X3 (Nat.le_of_ble_eq_true rfl) (Nat.le_of_ble_eq_true rfl) dX7_init_41 dX7_init_44 (fun q1 H hs => ?_)
  refine zn_callI C hl.1 (cn_P l E) hs ⟨rfl, rfl⟩ z_k180 z_k181 z_k6 z_k182 (by decide +kernel) ⟨(Nat.le_of_ble_eq_true rfl), (Nat.le_of_ble_eq_true rfl)⟩ (Nat.le_of_ble_eq_true rfl) ⟨(Nat.le_of_ble_eq_true rfl), (Nat.le_of_ble_eq_true rfl)⟩ dX7_init_45 (fun fP H locs hq hsN => ?_)
  subst hq
  have hs : zn_H E A s ((h0, .inr (7, [.ref q0, .null, .null, .int 0, .int 0])) :: (q0, .inl (z_cy E 4, 7, .inr (.inr (.inr (.inr (zg_q F 7)))))) :: (zu_Ks E F 7 ++ zu_P E fP)) H locs := hsN
  refine zn_putF C hnm hs rfl z_iX7 tyX7 tyX7_ok nmX7 1 (by decide) z_k283 rfl rfl rfl rfl (Nat.le_of_ble_eq_true rfl) (fs' := [.ref q0, .ref (fP 0), .null, .int 0, .int 0]) rfl dX7_init_48 (fun H locs hs => ?_)
  refine lv_aload_n hx hb dX7_init_51 rfl (lv_at hl 1 rfl) ?_
  refine zn_new C hs z_iX4 tyX4 tyX4_ok z_k253 z_k254 z_k8 (ci := 4) rfl zd_X4 (Nat.le_of_ble_eq_true rfl) (Nat.le_of_ble_eq_true rfl) dX7_init_52 dX7_init_55 (fun q2 H hs => ?_)
  refine zn_callN C hl.1 (cn_R l E) hs ⟨rfl, rfl⟩ z_n255 z_k256 z_k8 z_k257 (by decide +kernel) ⟨(Nat.le_of_ble_eq_true rfl), (Nat.le_of_ble_eq_true rfl)⟩ (Nat.le_of_ble_eq_true rfl) ⟨(Nat.le_of_ble_eq_true rfl), (Nat.le_of_ble_eq_true rfl)⟩ dX7_init_56 (fun fR H locs hq hsN => ?_)
  subst hq
  have hs : zn_H E A s ((h0, .inr (7, [.ref q0, .ref (fP 0), .null, .int 0, .int 0])) :: (q0, .inl (z_cy E 4, 7, .inr (.inr (.inr (.inr (zg_q F 7)))))) :: ((zu_Ks E F 7 ++ zu_P E fP) ++ zu_R E fR)) H locs := hsN
  refine zn_putF C hnm hs rfl z_iX7 tyX7 tyX7_ok nmX7 2 (by decide) z_k285 rfl rfl rfl rfl (Nat.le_of_ble_eq_true rfl) (fs' := [.ref q0, .ref (fP 0), .ref (fR 0), .int 0, .int 0]) rfl dX7_init_59 (fun H locs hs => ?_)
  have hs := zn_swap hs (g := fun j => some (z_bigW h0 q0 F fP fR (10 + 10 * j))) (fun j hj => by
    show (if j < 7 then some (F j 0) else none) = some (z_bigW h0 q0 F fP fR (10 + 10 * j))
    rw [if_pos hj]
    exact congrArg some (z_bigW_k h0 q0 F fP fR hj (q := 0) (by decide)).symm)
  rw [← zu_W_of] at hs
  exact zn_retP C hr hs.2.2 (z_bigW h0 q0 F fP fR) rfl hs.1 hs.2.1 dX7_init_62
