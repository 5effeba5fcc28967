/-! the law: its loop over the script, by any relation that each call keeps -/
/-- what is there at any time of the law's loop -/
def zl_I (A : Nat → Prop) (s : State) (X M : zE) (bl : Nat → Bool) (σ τ : zS) (H : Heap) (locs : List Loc) : Prop :=
  z_KA X s ∧ (∀ ρ, va_D A (z_ws X ρ)) ∧ (z_B X ∧ z_W X 0 ∧ z_Bl X bl ∧ (∀ b : Nat, b < 3 → bl b = false → z_Fr X b)) ∧ z_K M s ∧ (∀ ρ, va_D A (z_ws M ρ)) ∧ z_M M ∧ (∀ a ∈ z_ids X, ∀ d ∈ z_ids M, z_ad X a ≠ z_ad M d) ∧ z_H X A s σ H locs ∧ z_H M A s τ H locs
/-- the law's own frame -/
def zl_L (K V : Nat → Nat) (fv : Value) (A : Nat → Prop) (p : Program) (s : State) (m : MethodId) (args : Array Value) (meth : Method) (c : Code) (b L : Nat) (xs : Nat → Int32) : Prop :=
  p.tables.exec = Jvm.exec ∧ c.code = code ∧ c.maxLocals = 4 ∧ s.vm.findClass RL = some m.cls ∧ (∀ w ∈ z_wl, w.before args s = true) ∧ (∀ q : Nat, s.heap.size ≤ q → A q) ∧ meth.locks = false ∧ z_Sx K V fv A s s.heap ∧ va_X b L xs s s.heap ∧ b < s.heap.size ∧ ¬ A b ∧ L ≤ 3584
section zl_rows
variable {p : Program} {l : Launch} {e : Env} {s : State} {m : MethodId} {args : Array Value} {below : List Frame} {meth : Method} {c : Code} {H : Heap} {locs : List Loc} {cells slots : Nat} {Q : State → Prop}
variable {pc j : Nat} {ls : Array Slot} {rest st : List Value} {X M : zE} {bl : Nat → Bool} {σ τ ρ : zS} {A : Nat → Prop} {K V : Nat → Nat} {fv : Value} {y : MethodName} {b : ByteArray} {n b0 L : Nat} {xs : Nat → Int32} {ret : Option FieldType}
theorem zl_CX (C : zl_L K V fv A p s m args meth c b0 L xs) (I : zl_I A s X M bl σ τ H locs) : z_C X RL code 4 A p s m args meth c := ⟨C.1, C.2.1, C.2.2.1, C.2.2.2.1, C.2.2.2.2.1, I.1.1, I.2.1, C.2.2.2.2.2.1, C.2.2.2.2.2.2.1⟩
theorem zl_CM (C : zl_L K V fv A p s m args meth c b0 L xs) (I : zl_I A s X M bl σ τ H locs) : z_C M RL code 4 A p s m args meth c := ⟨C.1, C.2.1, C.2.2.1, C.2.2.2.1, C.2.2.2.2.1, I.2.2.2.1, I.2.2.2.2.1, C.2.2.2.2.2.1, C.2.2.2.2.2.2.1⟩
theorem zl_keepM {H1 : Heap} {locs1 : List Loc} (I : zl_I A s X M bl σ τ H locs) (hk : ∀ q : Nat, q < H.size → ¬ z_A X H.size q → H1[q]? = H[q]?) (hS : va_S A s.heap H1 locs1) : z_H M A s τ H1 locs1 := by
  refine ⟨I.2.2.2.2.2.2.2.2.1.kept (fun k q h => ?_), hS⟩
  have hlt := (I.2.2.2.2.2.2.2.2.1 k q h).lt
  refine hk q.1 hlt ?_
  obtain ⟨d, hd, e1⟩ := z_ws_fst h
  rintro (⟨a, ha, e2⟩ | h2)
  · exact I.2.2.2.2.2.2.1 a ha d (List.mem_of_getElem? hd) (by rw [← e2, e1])
  · omega
theorem zl_keepX {H1 : Heap} {locs1 : List Loc} (I : zl_I A s X M bl σ τ H locs) (hk : ∀ q : Nat, q < H.size → ¬ z_A M H.size q → H1[q]? = H[q]?) (hS : va_S A s.heap H1 locs1) : z_H X A s σ H1 locs1 := by
  refine ⟨I.2.2.2.2.2.2.2.1.1.kept (fun k q h => ?_), hS⟩
  have hlt := (I.2.2.2.2.2.2.2.1.1 k q h).lt
  refine hk q.1 hlt ?_
  obtain ⟨d, hd, e1⟩ := z_ws_fst h
  rintro (⟨a, ha, e2⟩ | h2)
  · exact I.2.2.2.2.2.2.1 d (List.mem_of_getElem? hd) a ha (by rw [← e1, e2])
  · omega
theorem zl_rm {j n : Nat} (hj : j < 30) (hn : n ≤ 40) : (z_rm j).frames + 1 ≤ room_1.frames ∧ 8 + (n + 11) + (z_rm j).locals ≤ room_1.locals := by
  show j + 1 ≤ 2048 ∧ 8 + (n + 11) + 60 * j ≤ 84000
  omega
/-- a call on the class -/
theorem zl_X {As : List Value} {rv : Int32} {index k : Nat} (C : zl_L K V fv A p s m args meth c b0 L xs) (I : zl_I A s X M bl σ τ H locs) (hls : ls.size = 4) (hM : z_T l X y b n ret (z_rm j) (z_QI X rv ρ) (.ref (z_ad X (30, 0, 0)) :: As) σ) (cv : z_CV RL index y b n ret k) (hy : y.cls = RX8) (hlen : As.length = k) (hst : st = As.reverse ++ .ref (z_ad X (30, 0, 0)) :: rest) (hj : j < 30) (hcs : cells ≤ 600000 ∧ slots ≤ 7302250) (hrest : (rest.map fun v => v.category).sum ≤ 8) (hdg : decode code pc = .ok (.invokevirtual index, 3))
    (kk : ∀ (H : Heap) (locs : List Loc), zl_I A s X M bl ρ τ H locs → W p l e room_1 s m args below meth c H locs cells slots Q (F0 m (pc + 3) ls (.int rv :: rest))) : W p l e room_1 s m args below meth c H locs cells slots Q (F0 m pc ls st) := by
  have hs := I.2.2.2.2.2.2.2.1
  refine zr_goI (zl_CX C I) hs (zr_runV (N := 5) (T := TX8) (zl_CX C I) hs hls hM cv (I.2.2.1.1 30 (by decide) (by decide)) (z_c30 X _ _ _ _) (by rw [hy]; rfl) hlen hst (zl_rm hj cv.2.2) hcs hrest hdg) (fun H1 locs1 h1 _ hk => kk H1 locs1 ?_)
  exact ⟨I.1, I.2.1, I.2.2.1, I.2.2.2.1, I.2.2.2.2.1, I.2.2.2.2.2.1, I.2.2.2.2.2.2.1, h1, zl_keepM I hk h1.2⟩
theorem zl_XS {As : List Value} {rv : Int32} {index k : Nat} (C : zl_L K V fv A p s m args meth c b0 L xs) (I : zl_I A s X M bl σ τ H locs) (hls : ls.size = 4) (hM : z_TS l X K V fv y b n ret (z_rm j) (z_QI X rv ρ) (.ref (z_ad X (30, 0, 0)) :: As) σ) (cv : z_CV RL index y b n ret k) (hy : y.cls = RX8) (hlen : As.length = k) (hst : st = As.reverse ++ .ref (z_ad X (30, 0, 0)) :: rest) (hj : j < 30) (hcs : cells ≤ 600000 ∧ slots ≤ 7302250) (hrest : (rest.map fun v => v.category).sum ≤ 8) (hdg : decode code pc = .ok (.invokevirtual index, 3))
    (kk : ∀ (H : Heap) (locs : List Loc), zl_I A s X M bl ρ τ H locs → W p l e room_1 s m args below meth c H locs cells slots Q (F0 m (pc + 3) ls (.int rv :: rest))) : W p l e room_1 s m args below meth c H locs cells slots Q (F0 m pc ls st) := by
  have hs := I.2.2.2.2.2.2.2.1
  refine zr_goI (zl_CX C I) hs (zr_runVS (N := 5) (T := TX8) (zl_CX C I) C.2.2.2.2.2.2.2.1 hs hls hM cv (I.2.2.1.1 30 (by decide) (by decide)) (z_c30 X _ _ _ _) (by rw [hy]; rfl) hlen hst (zl_rm hj cv.2.2) hcs hrest hdg) (fun H1 locs1 h1 _ hk => kk H1 locs1 ?_)
  exact ⟨I.1, I.2.1, I.2.2.1, I.2.2.2.1, I.2.2.2.2.1, I.2.2.2.2.2.1, I.2.2.2.2.2.2.1, h1, zl_keepM I hk h1.2⟩
/-- a call on the model -/
theorem zl_M {As : List Value} {rv : Int32} {index k : Nat} (C : zl_L K V fv A p s m args meth c b0 L xs) (I : zl_I A s X M bl σ τ H locs) (hls : ls.size = 4) (hM : z_T l M y b n ret (z_rm j) (z_QI M rv ρ) (.ref (z_ad M (100, 0, 0)) :: As) τ) (cv : z_CV RL index y b n ret k) (hy : y.cls = RX9) (hlen : As.length = k) (hst : st = As.reverse ++ .ref (z_ad M (100, 0, 0)) :: rest) (hj : j < 30) (hcs : cells ≤ 600000 ∧ slots ≤ 7302250) (hrest : (rest.map fun v => v.category).sum ≤ 8) (hdg : decode code pc = .ok (.invokevirtual index, 3))
    (kk : ∀ (H : Heap) (locs : List Loc), zl_I A s X M bl σ ρ H locs → W p l e room_1 s m args below meth c H locs cells slots Q (F0 m (pc + 3) ls (.int rv :: rest))) : W p l e room_1 s m args below meth c H locs cells slots Q (F0 m pc ls st) := by
  have hs := I.2.2.2.2.2.2.2.2
  refine zr_goI (zl_CM C I) hs (zr_runV (N := 27) (T := TX9) (zl_CM C I) hs hls hM cv (I.2.2.2.2.2.1 100 (by decide) (by decide)) (z_c100 M _ _ _ _) (by rw [hy]; rfl) hlen hst (zl_rm hj cv.2.2) hcs hrest hdg) (fun H1 locs1 h1 _ hk => kk H1 locs1 ?_)
  exact ⟨I.1, I.2.1, I.2.2.1, I.2.2.2.1, I.2.2.2.2.1, I.2.2.2.2.2.1, I.2.2.2.2.2.2.1, zl_keepX I hk h1.2, h1⟩
/-- the script at a place -/
theorem zl_ld {n d : Nat} {x1 x2 : Int32} (C : zl_L K V fv A p s m args meth c b0 L xs) (hS : va_S A s.heap H locs) (hx1 : x1 = nI (7 * n)) (hd : d < 7) (hx2 : x2 = nI d) (hn : 7 * n + 7 ≤ L) (hdg : decode code pc = .ok (.iaload, 1))
    (kk : W p l e room_1 s m args below meth c H locs cells slots Q (F0 m (pc + 1) ls (.int (xs (7 * n + d)) :: rest))) : W p l e room_1 s m args below meth c H locs cells slots Q (F0 m pc ls (.int (x1 + x2) :: .ref b0 :: rest)) := by
  obtain ⟨hx, hb, hml, hown, hts, hA, hlk, hX, hXs, hbl, hbA, hL⟩ := C
  subst hx1
  subst hx2
  have e1 : nI (7 * n) + nI d = nI (7 * n + d) := nI_add _ _
  rw [e1]
  refine va_sld hx hb hXs hbl hbA hS (vp_in_nI (by omega) (by omega)) hdg ?_
  rw [nI_clamp (by omega)]
  exact kk
theorem zl_ld0 {n : Nat} (C : zl_L K V fv A p s m args meth c b0 L xs) (hS : va_S A s.heap H locs) (hn : 7 * n + 7 ≤ L) (hdg : decode code pc = .ok (.iaload, 1))
    (kk : W p l e room_1 s m args below meth c H locs cells slots Q (F0 m (pc + 1) ls (.int (xs (7 * n)) :: rest))) : W p l e room_1 s m args below meth c H locs cells slots Q (F0 m pc ls (.int (nI (7 * n)) :: .ref b0 :: rest)) := by
  obtain ⟨hx, hb, hml, hown, hts, hA, hlk, hX, hXs, hbl, hbA, hL⟩ := C
  refine va_sld hx hb hXs hbl hbA hS (vp_in_nI (by omega) (by omega)) hdg ?_
  rw [nI_clamp (by omega)]
  exact kk
end zl_rows
/-- each call, of class and of model, keeps the relation and answers alike -/
def zl_st_feed (REL : (Nat → Bool) → zS → zS → Nat → Prop) : Prop := ∀ (bl : Nat → Bool) (σ τ : zS) (n : Nat), n < 512 → REL bl σ τ n → ∀ x1 x2 x3 x4 x5 : Int32, ∃ (r : Int32) (ρ π : zS), fX_feed x1 x2 x3 x4 x5 σ = some (r, ρ) ∧ fM_feed x1 x2 x3 x4 x5 τ = some (r, π) ∧ REL bl ρ π (n + 1)
def zl_st_end (REL : (Nat → Bool) → zS → zS → Nat → Prop) : Prop := ∀ (bl : Nat → Bool) (σ τ : zS) (n : Nat), n < 512 → REL bl σ τ n → ∀ x1 : Int32, ∃ (r : Int32) (ρ π : zS), fX_end x1 σ = some (r, ρ) ∧ fM_end x1 τ = some (r, π) ∧ REL bl ρ π (n + 1)
def zl_st_keepers (REL : (Nat → Bool) → zS → zS → Nat → Prop) : Prop := ∀ (bl : Nat → Bool) (σ τ : zS) (n : Nat), n < 512 → REL bl σ τ n → ∃ (r : Int32) (ρ π : zS), fX_keepers σ = some (r, ρ) ∧ fM_keepers τ = some (r, π) ∧ REL bl ρ π (n + 1)
def zl_st_fault (REL : (Nat → Bool) → zS → zS → Nat → Prop) : Prop := ∀ (bl : Nat → Bool) (σ τ : zS) (n : Nat), n < 512 → REL bl σ τ n → ∀ x1 : Int32, ∃ (r : Int32) (ρ π : zS), fX_fault x1 σ = some (r, ρ) ∧ fM_fault x1 τ = some (r, π) ∧ REL bl ρ π (n + 1)
def zl_st_ask (REL : (Nat → Bool) → zS → zS → Nat → Prop) : Prop := ∀ (bl : Nat → Bool) (σ τ : zS) (n : Nat), n < 512 → REL bl σ τ n → ∀ x1 : Int32, ∃ (r : Int32) (ρ π : zS), fX_ask x1 σ = some (r, ρ) ∧ fM_ask x1 τ = some (r, π) ∧ REL bl ρ π (n + 1)
def zl_st_deliver (REL : (Nat → Bool) → zS → zS → Nat → Prop) : Prop := ∀ (bl : Nat → Bool) (σ τ : zS) (n : Nat), n < 512 → REL bl σ τ n → ∀ x1 : Int32, ∃ (r : Int32) (ρ π : zS), fX_deliver x1 σ = some (r, ρ) ∧ fM_deliver x1 τ = some (r, π) ∧ REL bl ρ π (n + 1)
def zl_st_drop (REL : (Nat → Bool) → zS → zS → Nat → Prop) : Prop := ∀ (bl : Nat → Bool) (σ τ : zS) (n : Nat), n < 512 → REL bl σ τ n → ∀ x1 : Int32, ∃ (r : Int32) (ρ π : zS), fX_drop x1 σ = some (r, ρ) ∧ fM_drop x1 τ = some (r, π) ∧ REL bl ρ π (n + 1)
def zl_st_twice (REL : (Nat → Bool) → zS → zS → Nat → Prop) : Prop := ∀ (bl : Nat → Bool) (σ τ : zS) (n : Nat), n < 512 → REL bl σ τ n → ∀ x1 : Int32, ∃ (r : Int32) (ρ π : zS), fX_twice x1 σ = some (r, ρ) ∧ fM_twice x1 τ = some (r, π) ∧ REL bl ρ π (n + 1)
def zl_st_fall (REL : (Nat → Bool) → zS → zS → Nat → Prop) : Prop := ∀ (bl : Nat → Bool) (σ τ : zS) (n : Nat), n < 512 → REL bl σ τ n → ∀ x1 : Int32, ∃ (r : Int32) (ρ π : zS), fX_fall x1 σ = some (r, ρ) ∧ fM_fall x1 τ = some (r, π) ∧ REL bl ρ π (n + 1)
def zl_st_rise (REL : (Nat → Bool) → zS → zS → Nat → Prop) : Prop := ∀ (bl : Nat → Bool) (σ τ : zS) (n : Nat), n < 512 → REL bl σ τ n → ∀ x1 : Int32, ∃ (r : Int32) (ρ π : zS), fX_rise x1 σ = some (r, ρ) ∧ fM_rise x1 τ = some (r, π) ∧ REL bl ρ π (n + 1)
def zl_st_command (REL : (Nat → Bool) → zS → zS → Nat → Prop) : Prop := ∀ (bl : Nat → Bool) (σ τ : zS) (n : Nat), n < 512 → REL bl σ τ n → ∀ x1 x2 x3 x4 x5 x6 : Int32, ∃ (r : Int32) (ρ π : zS), fX_command x1 x2 x3 x4 x5 x6 σ = some (r, ρ) ∧ fM_command x1 x2 x3 x4 x5 x6 τ = some (r, π) ∧ REL bl ρ π (n + 1)
def zl_st_append (REL : (Nat → Bool) → zS → zS → Nat → Prop) : Prop := ∀ (bl : Nat → Bool) (σ τ : zS) (n : Nat), n < 512 → REL bl σ τ n → ∀ x1 x2 : Int32, ∃ (r : Int32) (ρ π : zS), fX_append x1 x2 σ = some (r, ρ) ∧ fM_append x1 x2 τ = some (r, π) ∧ REL bl ρ π (n + 1)
def zl_st_fold (REL : (Nat → Bool) → zS → zS → Nat → Prop) : Prop := ∀ (bl : Nat → Bool) (σ τ : zS) (n : Nat), n < 512 → REL bl σ τ n → ∀ x1 x2 : Int32, ∃ (r : Int32) (ρ π : zS), fX_fold x1 x2 σ = some (r, ρ) ∧ fM_fold x1 x2 τ = some (r, π) ∧ REL bl ρ π (n + 1)
def zl_st_read (REL : (Nat → Bool) → zS → zS → Nat → Prop) : Prop := ∀ (bl : Nat → Bool) (σ τ : zS) (n : Nat), n < 512 → REL bl σ τ n → ∀ x1 x2 : Int32, ∃ (r : Int32) (ρ π : zS), fX_read x1 x2 σ = some (r, ρ) ∧ fM_read x1 x2 τ = some (r, π) ∧ REL bl ρ π (n + 1)
def zl_st_good (REL : (Nat → Bool) → zS → zS → Nat → Prop) : Prop := ∀ (bl : Nat → Bool) (σ τ : zS) (n : Nat), n < 512 → REL bl σ τ n → ∀ x1 : Int32, ∃ (r r2 : Int32) (ρ π : zS), fX_good x1 σ = some (r, ρ) ∧ fM_good x1 τ = some (r2, π) ∧ REL bl ρ π (n + 1)
def zl_st_keeper (REL : (Nat → Bool) → zS → zS → Nat → Prop) : Prop := ∀ (bl : Nat → Bool) (σ τ : zS) (n : Nat), n < 512 → REL bl σ τ n → ∀ x1 x2 : Int32, ∃ (r : Int32) (ρ π : zS), fX_keeper x1 x2 σ = some (r, ρ) ∧ fM_keeper x1 x2 τ = some (r, π) ∧ REL bl ρ π (n + 1)
def zl_st_entry (REL : (Nat → Bool) → zS → zS → Nat → Prop) : Prop := ∀ (bl : Nat → Bool) (σ τ : zS) (n : Nat), n < 512 → REL bl σ τ n → ∀ x1 x2 x3 : Int32, ∃ (r : Int32) (ρ π : zS), fX_entry x1 x2 x3 σ = some (r, ρ) ∧ fM_entry x1 x2 x3 τ = some (r, π) ∧ REL bl ρ π (n + 1)
def zl_st_state (REL : (Nat → Bool) → zS → zS → Nat → Prop) : Prop := ∀ (bl : Nat → Bool) (σ τ : zS) (n : Nat), n < 512 → REL bl σ τ n → ∀ x1 x2 : Int32, ∃ (r : Int32) (ρ π : zS), fX_state x1 x2 σ = some (r, ρ) ∧ fM_state x1 x2 τ = some (r, π) ∧ REL bl ρ π (n + 1)
def zl_st_client (REL : (Nat → Bool) → zS → zS → Nat → Prop) : Prop := ∀ (bl : Nat → Bool) (σ τ : zS) (n : Nat), n < 512 → REL bl σ τ n → ∀ x1 x2 x3 : Int32, ∃ (r : Int32) (ρ π : zS), fX_client x1 x2 x3 σ = some (r, ρ) ∧ fM_client x1 x2 x3 τ = some (r, π) ∧ REL bl ρ π (n + 1)
def zl_st_peer (REL : (Nat → Bool) → zS → zS → Nat → Prop) : Prop := ∀ (bl : Nat → Bool) (σ τ : zS) (n : Nat), n < 512 → REL bl σ τ n → ∀ x1 x2 x3 : Int32, ∃ (r : Int32) (ρ π : zS), fX_peer x1 x2 x3 σ = some (r, ρ) ∧ fM_peer x1 x2 x3 τ = some (r, π) ∧ REL bl ρ π (n + 1)
def zl_st_slot (REL : (Nat → Bool) → zS → zS → Nat → Prop) : Prop := ∀ (bl : Nat → Bool) (σ τ : zS) (n : Nat), n < 512 → REL bl σ τ n → ∀ x1 x2 : Int32, ∃ (r : Int32) (ρ π : zS), fX_slot x1 x2 σ = some (r, ρ) ∧ fM_slot x1 x2 τ = some (r, π) ∧ REL bl ρ π (n + 1)
def zl_st_note (REL : (Nat → Bool) → zS → zS → Nat → Prop) : Prop := ∀ (bl : Nat → Bool) (σ τ : zS) (n : Nat), n < 512 → REL bl σ τ n → ∀ x1 x2 x3 x4 x5 : Int32, ∃ (r : Int32) (ρ π : zS), fX_note x1 x2 x3 x4 x5 σ = some (r, ρ) ∧ fM_note x1 x2 x3 x4 x5 τ = some (r, π) ∧ REL bl ρ π (n + 1)
def zl_st_hush (REL : (Nat → Bool) → zS → zS → Nat → Prop) : Prop := ∀ (bl : Nat → Bool) (σ τ : zS) (n : Nat), n < 512 → REL bl σ τ n → ∃ (r : Int32) (ρ π : zS), fX_hush σ = some (r, ρ) ∧ fM_hush τ = some (r, π) ∧ REL bl ρ π (n + 1)
def zl_st_judge (REL : (Nat → Bool) → zS → zS → Nat → Prop) : Prop := ∀ (bl : Nat → Bool) (σ τ : zS) (n : Nat), n < 512 → REL bl σ τ n → ∃ (r : Int32) (ρ π : zS), fX_judge σ = some (r, ρ) ∧ fM_judge τ = some (r, π) ∧ REL bl ρ π (n + 1)
def zl_st_order (REL : (Nat → Bool) → zS → zS → Nat → Prop) : Prop := ∀ (bl : Nat → Bool) (σ τ : zS) (n : Nat), n < 512 → REL bl σ τ n → ∀ x1 : Int32, ∃ (r : Int32) (ρ π : zS), fX_order x1 σ = some (r, ρ) ∧ fM_order x1 τ = some (r, π) ∧ REL bl ρ π (n + 1)
def zl_st_image (REL : (Nat → Bool) → zS → zS → Nat → Prop) : Prop := ∀ (bl : Nat → Bool) (σ τ : zS) (n : Nat), n < 512 → REL bl σ τ n → ∀ x1 : Int32, (∃ (r : Int32) (ρ π : zS), fX_image bl x1 σ = some (r, ρ) ∧ fM_image x1 τ = some (r, π) ∧ REL bl ρ π (n + 1)) ∨ (∃ (r r1 : Int32) (ρ π : zS), fX_isBox x1 σ = some (r1, σ) ∧ ¬ r1 = 0 ∧ z_in x1 3 = true ∧ bl x1.toNatClampNeg = false ∧ fX_image_31 (z_bl1 bl x1.toNatClampNeg) x1 (z_new σ (x1.toNatClampNeg + 1)) = some (r, ρ) ∧ fM_image x1 τ = some (r, π) ∧ REL (z_bl1 bl x1.toNatClampNeg) ρ π (n + 1))
def zl_st_back (REL : (Nat → Bool) → zS → zS → Nat → Prop) : Prop := ∀ (bl : Nat → Bool) (σ τ : zS) (n : Nat), n < 512 → REL bl σ τ n → ∀ x1 : Int32, ∃ (r : Int32) (ρ π : zS), fX_back bl x1 σ = some (r, ρ) ∧ fM_back x1 τ = some (r, π) ∧ REL bl ρ π (n + 1)
def zl_st_about (REL : (Nat → Bool) → zS → zS → Nat → Prop) : Prop := ∀ (bl : Nat → Bool) (σ τ : zS) (n : Nat), n < 512 → REL bl σ τ n → ∀ x1 : Int32, ∃ (r : Int32) (ρ π : zS), fX_about x1 σ = some (r, ρ) ∧ fM_about x1 τ = some (r, π) ∧ REL bl ρ π (n + 1)
theorem zcV_RL_13 : z_CV RL 13 yX8_feed cX8_feed 6 (some .int) 5 := ⟨⟨z_k358, z_k359, z_k360, z_k1, z_k361⟩, by decide +kernel, by decide⟩
theorem zcV_RL_17 : z_CV RL 17 yX9_feed cX9_feed 8 (some .int) 5 := ⟨⟨z_k1307, z_k1308, z_k1309, z_k10, z_k1310⟩, by decide +kernel, by decide⟩
theorem zcV_RL_18 : z_CV RL 18 yX8_end cX8_end 2 (some .int) 1 := ⟨⟨z_k370, z_k371, z_k372, z_k1, z_k373⟩, by decide +kernel, by decide⟩
theorem zcV_RL_22 : z_CV RL 22 yX9_end cX9_end 2 (some .int) 1 := ⟨⟨z_k1311, z_k1312, z_k1313, z_k10, z_k1314⟩, by decide +kernel, by decide⟩
theorem zcV_RL_23 : z_CV RL 23 yX8_keepers cX8_keepers 2 (some .int) 0 := ⟨⟨z_k374, z_k375, z_k376, z_k1, z_k377⟩, by decide +kernel, by decide⟩
theorem zcV_RL_27 : z_CV RL 27 yX9_keepers cX9_keepers 2 (some .int) 0 := ⟨⟨z_k1033, z_k1034, z_k1035, z_k10, z_k1036⟩, by decide +kernel, by decide⟩
theorem zcV_RL_28 : z_CV RL 28 yX8_fault cX8_fault 2 (some .int) 1 := ⟨⟨z_k505, z_k506, z_k507, z_k1, z_k508⟩, by decide +kernel, by decide⟩
theorem zcV_RL_31 : z_CV RL 31 yX9_fault cX9_fault 2 (some .int) 1 := ⟨⟨z_k1069, z_k1070, z_k1071, z_k10, z_k1072⟩, by decide +kernel, by decide⟩
theorem zcV_RL_32 : z_CV RL 32 yX8_ask cX8_ask 2 (some .int) 1 := ⟨⟨z_k509, z_k510, z_k511, z_k1, z_k512⟩, by decide +kernel, by decide⟩
theorem zcV_RL_35 : z_CV RL 35 yX9_ask cX9_ask 3 (some .int) 1 := ⟨⟨z_k1073, z_k1074, z_k1075, z_k10, z_k1076⟩, by decide +kernel, by decide⟩
theorem zcV_RL_36 : z_CV RL 36 yX8_deliver cX8_deliver 2 (some .int) 1 := ⟨⟨z_k571, z_k572, z_k573, z_k1, z_k574⟩, by decide +kernel, by decide⟩
theorem zcV_RL_39 : z_CV RL 39 yX9_deliver cX9_deliver 3 (some .int) 1 := ⟨⟨z_k1178, z_k1179, z_k1180, z_k10, z_k1181⟩, by decide +kernel, by decide⟩
theorem zcV_RL_40 : z_CV RL 40 yX8_drop cX8_drop 3 (some .int) 1 := ⟨⟨z_k704, z_k705, z_k706, z_k1, z_k707⟩, by decide +kernel, by decide⟩
theorem zcV_RL_43 : z_CV RL 43 yX9_drop cX9_drop 3 (some .int) 1 := ⟨⟨z_k1214, z_k1215, z_k1216, z_k10, z_k1217⟩, by decide +kernel, by decide⟩
theorem zcV_RL_44 : z_CV RL 44 yX8_twice cX8_twice 3 (some .int) 1 := ⟨⟨z_k708, z_k709, z_k710, z_k1, z_k711⟩, by decide +kernel, by decide⟩
theorem zcV_RL_47 : z_CV RL 47 yX9_twice cX9_twice 3 (some .int) 1 := ⟨⟨z_k1218, z_k1219, z_k1220, z_k10, z_k1221⟩, by decide +kernel, by decide⟩
theorem zcV_RL_48 : z_CV RL 48 yX8_fall cX8_fall 2 (some .boolean) 1 := ⟨⟨z_k714, z_k715, z_k716, z_k1, z_k717⟩, by decide +kernel, by decide⟩
theorem zcV_RL_52 : z_CV RL 52 yX9_fall cX9_fall 2 (some .boolean) 1 := ⟨⟨z_k1222, z_k1223, z_k1224, z_k10, z_k1225⟩, by decide +kernel, by decide⟩
theorem zcV_RL_53 : z_CV RL 53 yX8_rise cX8_rise 2 (some .boolean) 1 := ⟨⟨z_k723, z_k724, z_k725, z_k1, z_k726⟩, by decide +kernel, by decide⟩
theorem zcV_RL_56 : z_CV RL 56 yX9_rise cX9_rise 2 (some .boolean) 1 := ⟨⟨z_k1226, z_k1227, z_k1228, z_k10, z_k1229⟩, by decide +kernel, by decide⟩
theorem zcV_RL_57 : z_CV RL 57 yX8_command cX8_command 7 (some .int) 6 := ⟨⟨z_k727, z_k728, z_k729, z_k1, z_k730⟩, by decide +kernel, by decide⟩
theorem zcV_RL_61 : z_CV RL 61 yX9_command cX9_command 8 (some .int) 6 := ⟨⟨z_k1174, z_k1175, z_k1176, z_k10, z_k1177⟩, by decide +kernel, by decide⟩
theorem zcV_RL_62 : z_CV RL 62 yX8_append cX8_append 3 (some .int) 2 := ⟨⟨z_k747, z_k748, z_k749, z_k1, z_k750⟩, by decide +kernel, by decide⟩
theorem zcV_RL_66 : z_CV RL 66 yX9_append cX9_append 8 (some .int) 2 := ⟨⟨z_k1162, z_k1163, z_k1164, z_k10, z_k1165⟩, by decide +kernel, by decide⟩
theorem zcV_RL_67 : z_CV RL 67 yX8_fold cX8_fold 4 (some .int) 2 := ⟨⟨z_k765, z_k766, z_k767, z_k1, z_k768⟩, by decide +kernel, by decide⟩
theorem zcV_RL_70 : z_CV RL 70 yX9_fold cX9_fold 5 (some .int) 2 := ⟨⟨z_k1230, z_k1231, z_k1232, z_k10, z_k1233⟩, by decide +kernel, by decide⟩
theorem zcV_RL_71 : z_CV RL 71 yX8_read cX8_read 3 (some .int) 2 := ⟨⟨z_k773, z_k774, z_k775, z_k1, z_k776⟩, by decide +kernel, by decide⟩
theorem zcV_RL_74 : z_CV RL 74 yX9_read cX9_read 4 (some .int) 2 := ⟨⟨z_k1234, z_k1235, z_k1236, z_k10, z_k1237⟩, by decide +kernel, by decide⟩
theorem zcV_RL_75 : z_CV RL 75 yX8_good cX8_good 2 (some .int) 1 := ⟨⟨z_k785, z_k786, z_k787, z_k1, z_k788⟩, by decide +kernel, by decide⟩
theorem zcV_RL_78 : z_CV RL 78 yX9_good cX9_good 5 (some .int) 1 := ⟨⟨z_k1238, z_k1239, z_k1240, z_k10, z_k1241⟩, by decide +kernel, by decide⟩
theorem zcV_RL_79 : z_CV RL 79 yX8_keeper cX8_keeper 3 (some .int) 2 := ⟨⟨z_k809, z_k810, z_k811, z_k1, z_k812⟩, by decide +kernel, by decide⟩
theorem zcV_RL_82 : z_CV RL 82 yX9_keeper cX9_keeper 3 (some .int) 2 := ⟨⟨z_k1243, z_k1244, z_k1245, z_k10, z_k1246⟩, by decide +kernel, by decide⟩
theorem zcV_RL_83 : z_CV RL 83 yX8_entry cX8_entry 4 (some .int) 3 := ⟨⟨z_k817, z_k818, z_k819, z_k1, z_k820⟩, by decide +kernel, by decide⟩
theorem zcV_RL_87 : z_CV RL 87 yX9_entry cX9_entry 4 (some .int) 3 := ⟨⟨z_k1247, z_k1248, z_k1249, z_k10, z_k1250⟩, by decide +kernel, by decide⟩
theorem zcV_RL_88 : z_CV RL 88 yX8_state cX8_state 3 (some .int) 2 := ⟨⟨z_k826, z_k827, z_k828, z_k1, z_k829⟩, by decide +kernel, by decide⟩
theorem zcV_RL_91 : z_CV RL 91 yX9_state cX9_state 3 (some .int) 2 := ⟨⟨z_k1251, z_k1252, z_k1253, z_k10, z_k1254⟩, by decide +kernel, by decide⟩
theorem zcV_RL_92 : z_CV RL 92 yX8_client cX8_client 5 (some .int) 3 := ⟨⟨z_k831, z_k832, z_k833, z_k1, z_k834⟩, by decide +kernel, by decide⟩
theorem zcV_RL_95 : z_CV RL 95 yX9_client cX9_client 4 (some .int) 3 := ⟨⟨z_k1255, z_k1256, z_k1257, z_k10, z_k1258⟩, by decide +kernel, by decide⟩
theorem zcV_RL_96 : z_CV RL 96 yX8_peer cX8_peer 5 (some .int) 3 := ⟨⟨z_k843, z_k844, z_k845, z_k1, z_k846⟩, by decide +kernel, by decide⟩
theorem zcV_RL_99 : z_CV RL 99 yX9_peer cX9_peer 4 (some .int) 3 := ⟨⟨z_k1259, z_k1260, z_k1261, z_k10, z_k1262⟩, by decide +kernel, by decide⟩
theorem zcV_RL_100 : z_CV RL 100 yX8_slot cX8_slot 3 (some .int) 2 := ⟨⟨z_k847, z_k848, z_k849, z_k1, z_k850⟩, by decide +kernel, by decide⟩
theorem zcV_RL_103 : z_CV RL 103 yX9_slot cX9_slot 3 (some .int) 2 := ⟨⟨z_k1263, z_k1264, z_k1265, z_k10, z_k1266⟩, by decide +kernel, by decide⟩
theorem zcV_RL_104 : z_CV RL 104 yX8_note cX8_note 6 (some .int) 5 := ⟨⟨z_k855, z_k856, z_k857, z_k1, z_k858⟩, by decide +kernel, by decide⟩
theorem zcV_RL_107 : z_CV RL 107 yX9_note cX9_note 6 (some .int) 5 := ⟨⟨z_k1267, z_k1268, z_k1269, z_k10, z_k1270⟩, by decide +kernel, by decide⟩
theorem zcV_RL_108 : z_CV RL 108 yX8_hush cX8_hush 1 (some .int) 0 := ⟨⟨z_k868, z_k869, z_k870, z_k1, z_k871⟩, by decide +kernel, by decide⟩
theorem zcV_RL_111 : z_CV RL 111 yX9_hush cX9_hush 2 (some .int) 0 := ⟨⟨z_k1271, z_k1272, z_k1273, z_k10, z_k1274⟩, by decide +kernel, by decide⟩
theorem zcV_RL_112 : z_CV RL 112 yX8_judge cX8_judge 1 (some .int) 0 := ⟨⟨z_k876, z_k877, z_k878, z_k1, z_k879⟩, by decide +kernel, by decide⟩
theorem zcV_RL_115 : z_CV RL 115 yX9_judge cX9_judge 1 (some .int) 0 := ⟨⟨z_k1275, z_k1276, z_k1277, z_k10, z_k1278⟩, by decide +kernel, by decide⟩
theorem zcV_RL_116 : z_CV RL 116 yX8_order cX8_order 2 (some .int) 1 := ⟨⟨z_k894, z_k895, z_k896, z_k1, z_k897⟩, by decide +kernel, by decide⟩
theorem zcV_RL_119 : z_CV RL 119 yX9_order cX9_order 2 (some .int) 1 := ⟨⟨z_k1287, z_k1288, z_k1289, z_k10, z_k1290⟩, by decide +kernel, by decide⟩
theorem zcV_RL_120 : z_CV RL 120 yX8_image cX8_image 2 (some .int) 1 := ⟨⟨z_k898, z_k899, z_k900, z_k1, z_k901⟩, by decide +kernel, by decide⟩
theorem zcV_RL_123 : z_CV RL 123 yX9_image cX9_image 3 (some .int) 1 := ⟨⟨z_k1291, z_k1292, z_k1293, z_k10, z_k1294⟩, by decide +kernel, by decide⟩
theorem zcV_RL_124 : z_CV RL 124 yX8_back cX8_back 2 (some .int) 1 := ⟨⟨z_k923, z_k924, z_k925, z_k1, z_k926⟩, by decide +kernel, by decide⟩
theorem zcV_RL_127 : z_CV RL 127 yX9_back cX9_back 3 (some .int) 1 := ⟨⟨z_k1295, z_k1296, z_k1297, z_k10, z_k1298⟩, by decide +kernel, by decide⟩
theorem zcV_RL_128 : z_CV RL 128 yX8_about cX8_about 2 (some .int) 1 := ⟨⟨z_k927, z_k928, z_k929, z_k1, z_k930⟩, by decide +kernel, by decide⟩
theorem zcV_RL_131 : z_CV RL 131 yX9_about cX9_about 2 (some .int) 1 := ⟨⟨z_k1299, z_k1300, z_k1301, z_k10, z_k1302⟩, by decide +kernel, by decide⟩
/-- how many boxes' worlds are made -/
def zl_nb (bl : Nat → Bool) : Nat := (if bl 0 = true then 1 else 0) + (if bl 1 = true then 1 else 0) + (if bl 2 = true then 1 else 0)
theorem zl_nb_le (bl : Nat → Bool) : zl_nb bl ≤ 3 := by
  unfold zl_nb
  split <;> split <;> split <;> omega
theorem zl_nb_1 {bl : Nat → Bool} {b : Nat} (hb : b < 3) (h : bl b = false) : zl_nb (z_bl1 bl b) = zl_nb bl + 1 := by
  unfold zl_nb z_bl1
  rcases (show b = 0 ∨ b = 1 ∨ b = 2 by omega) with rfl | rfl | rfl <;> simp [h] <;> omega
section zl_cases
variable {p : Program} {l : Launch} {e : Env} {s : State} {m : MethodId} {args : Array Value} {below : List Frame} {meth : Method} {c : Code} {H : Heap} {locs : List Loc} {Q : State → Prop}
variable {ls : Array Slot} {X M : zE} {bl : Nat → Bool} {σ τ : zS} {A : Nat → Prop} {K V : Nat → Nat} {fv : Value} {n b0 L : Nat} {xs : Nat → Int32} {REL : (Nat → Bool) → zS → zS → Nat → Prop}
/-- where each call's end goes on -/
def zl_K (l : Launch) (e : Env) (A : Nat → Prop) (s : State) (M : zE) (p : Program) (m : MethodId) (args : Array Value) (below : List Frame) (meth : Method) (c : Code) (Q : State → Prop) (REL : (Nat → Bool) → zS → zS → Nat → Prop) (n b0 : Nat) : Prop :=
  ∀ (X : zE) (bl : Nat → Bool) (σ τ : zS) (H : Heap) (locs : List Loc) (ls : Array Slot), zl_I A s X M bl σ τ H locs → lv_has ls 4 [(3, .int (nI (7 * n))), (2, .ref (z_ad M (100, 0, 0))), (1, .ref (z_ad X (30, 0, 0))), (0, .ref b0)] → REL bl σ τ (n + 1) → W p l e room_1 s m args below meth c H locs (276 + 243 * zl_nb bl) (27114 + 5098 * zl_nb bl) Q (F0 m 1026 ls [])
theorem z_idW_in {w : Nat} {a : zJ} (h : a ∈ z_idW w) : a.2.1 = w ∧ a.1 < 30 := by
  unfold z_idW at h
  simp only [List.mem_cons, List.mem_append, List.mem_flatMap, List.not_mem_nil, or_false] at h
  rcases h with rfl | rfl | ((⟨i, -, h⟩ | rfl | rfl | ⟨i, -, h⟩) | h)
  · exact ⟨rfl, by show 0 < 30; decide⟩
  · exact ⟨rfl, by show 1 < 30; decide⟩
  · rcases h with rfl | rfl | rfl | rfl | rfl | rfl | rfl | rfl | rfl | rfl <;> exact ⟨rfl, Nat.le_of_ble_eq_true rfl⟩
  · exact ⟨rfl, by show 2 < 30; decide⟩
  · exact ⟨rfl, by show 3 < 30; decide⟩
  · rcases h with rfl | rfl | rfl | rfl <;> exact ⟨rfl, Nat.le_of_ble_eq_true rfl⟩
  · rcases h with rfl | rfl | rfl | rfl | rfl <;> exact ⟨rfl, Nat.le_of_ble_eq_true rfl⟩
set_option maxHeartbeats 4000000 in
/-- image where a world is made -/
theorem zl_N {pc : Nat} {cells slots : Nat} {x1 r : Int32} {ρ : zS} (C : zl_L K V fv A p s m args meth c b0 L xs) (I : zl_I A s X M bl σ τ H locs) (hls : ls.size = 4) (hM : ∀ sz : Nat, Met l yX8_image (.code yX8_image cX8_image 2 (some .int) :: z_wl) (z_rmc 13 243 5098) (va_Pc [.ref (z_ad X (30, 0, 0)), .int x1] (fun U => U.heap.size = sz ∧ va_P X.1 z_cl (z_ws X σ) U.heap ∧ z_KA X U ∧ va_D (fun _ => True) (z_ws X σ))) (z_QN X x1.toNatClampNeg r ρ (z_A X sz)) 243 5098 (z_A X sz)) (g3 : z_in x1 3 = true) (g4 : bl x1.toNatClampNeg = false) (hc1 : cells + 243 ≤ 600000) (hc2 : slots + 5098 ≤ 7302250) (hdg : decode code pc = .ok (.invokevirtual 120, 3))
    (kk : ∀ (f : Nat → Nat) (H : Heap) (locs : List Loc), zl_I A s (z_ext X x1.toNatClampNeg f) M (z_bl1 bl x1.toNatClampNeg) ρ τ H locs → W p l e room_1 s m args below meth c H locs (cells + 243) (slots + 5098) Q (F0 m (pc + 3) ls [.int r])) : W p l e room_1 s m args below meth c H locs cells slots Q (F0 m pc ls [.int x1, .ref (z_ad X (30, 0, 0))]) := by
  have CX := zl_CX C I
  have hs := I.2.2.2.2.2.2.2.1
  obtain ⟨⟨w1, w2, w3, w4, w5⟩, ⟨d1, d2, d3⟩, hn⟩ := zcV_RL_120
  obtain ⟨q0, -, he⟩ := z_at σ (I.2.2.1.1 30 (by decide) (by decide))
  rw [z_c30] at he
  have hrv := va_recv CX.2.2.2.2.2.1.1 hs.1 (ci := 8) rfl he
  have hpre : PreS s H (va_Pc [.ref (z_ad X (30, 0, 0)), .int x1] (fun U => U.heap.size = H.size ∧ va_P X.1 z_cl (z_ws X σ) U.heap ∧ z_KA X U ∧ va_D (fun _ => True) (z_ws X σ))) [.ref (z_ad X (30, 0, 0)), .int x1] := by
    refine ⟨fun a U g mk q => ?_, fun U hU hW => ⟨rfl, by rw [hU], by rw [hU]; exact hs.1, I.1.moved hW, (I.2.1 σ).weaken (fun _ _ _ _ => trivial)⟩⟩
    obtain ⟨e0, e1, qP, qK, qD⟩ := q
    exact ⟨e0, e1, qP, ⟨⟨va_K.moved (u := U) (U := U.calling g mk a) (Vm.Alike.refl U.vm) qK.1.1, fun w hw => va_tabs (u := U) (U := U.calling g mk a) (z_nlT hw) rfl (qK.1.2 w hw)⟩, qK.2.1.moved (u := U) (U := U.calling g mk a) (Vm.Alike.refl U.vm), qK.2.2.1.moved (u := U) (U := U.calling g mk a) (Vm.Alike.refl U.vm), qK.2.2.2.moved (u := U) (U := U.calling g mk a) (Vm.Alike.refl U.vm)⟩, qD⟩
  have hrun : va_Run p l e room_1 s m args below meth c H locs cells slots 243 5098 (F0 m pc ls [.int x1, .ref (z_ad X (30, 0, 0))]) [] (z_QN X x1.toNatClampNeg r ρ (z_A X H.size) [.ref (z_ad X (30, 0, 0)), .int x1].toArray) (z_A X H.size) := by
    refine va_runV (As := [.int x1]) (bytes := cX8_image) (maxL := 2) (ret := some .int) (C := yX8_image.cls) ⟨CX.1, CX.2.1, CX.2.2.1, CX.2.2.2.1, CX.2.2.2.2.1⟩ (hM H.size) (cwV 1 CX.2.2.2.2.1 (z_gin (fun w h => h) ?_) rfl rfl rfl ⟨rfl, d1, d2, d3⟩ ⟨Nat.le_of_ble_eq_true rfl, Nat.le_of_ble_eq_true rfl⟩) ⟨hpre.1, hrv, hpre.2⟩ rfl rfl hls rfl (lv_room (Nat.le_of_ble_eq_true rfl)) hdg ⟨hc1, hc2⟩
    refine z_wsin w5 (fun w hw => ?_)
    simp only [List.mem_cons, List.not_mem_nil, or_false] at hw
    rcases hw with rfl | rfl | rfl | rfl
    · exact w1
    · exact w2
    · exact w3
    · exact w4
  refine va_calli hrun hs.2 (fun q _ h => z_freeA CX hs q h) (z_freeA CX hs) (fun r2 f t H1 locs1 ht _ hw hB hz hk hS => ?_)
  subst hw
  obtain ⟨hB1, hB2⟩ := hB
  rw [ht] at hB1
  have hb3 := z_in_lt g3
  refine kk f H1 locs1 ⟨⟨⟨I.1.1.1, I.1.1.2⟩, I.1.2⟩, fun ρ2 => ?_, ⟨z_ext_B I.2.2.1.1, z_ext_W I.2.2.1.2.1, z_ext_Bl I.2.2.1.2.2.1, fun b hb hbl => ?_⟩, I.2.2.2.1, I.2.2.2.2.1, I.2.2.2.2.2.1, fun a ha d hd e1 => ?_, ⟨hB1, hS⟩, zl_keepM I hk hS⟩
  · exact z_Dall (hB2.weaken (fun _ _ _ h => z_freeA CX hs _ h)) ρ2
  · have hne : b ≠ x1.toNatClampNeg := fun e1 => by
      rw [z_bl1, if_pos e1] at hbl
      cases hbl
    have hb0 : bl b = false := by
      rw [z_bl1, if_neg hne] at hbl
      exact hbl
    intro a ha
    rcases List.mem_append.mp ha with h | h
    · exact I.2.2.1.2.2.2 b hb hb0 a h
    · have h4 := z_idW_in h
      refine ⟨?_, fun e1 => ?_⟩
      · rw [h4.1]
        omega
      · have := h4.2
        omega
  · obtain ⟨k, -, he2⟩ := z_at (E := z_ext X x1.toNatClampNeg f) ρ ha
    have hA := hB2.2 k _ he2
    obtain ⟨k3, -, he3⟩ := z_at (E := M) τ hd
    have hlt := (I.2.2.2.2.2.2.2.2.1 k3 _ he3).lt
    rcases hA with ⟨a2, ha2, e2⟩ | h2
    · exact I.2.2.2.2.2.2.1 a2 ha2 d hd (by rw [← e2]; exact e1)
    · have h5 : z_ad M d < H.size := hlt
      have h6 : H.size ≤ z_ad (z_ext X x1.toNatClampNeg f) a := h2
      omega
set_option maxHeartbeats 4000000 in
set_option maxRecDepth 20000 in
theorem zl_c0 (C : zl_L K V fv A p s m args meth c b0 L xs) (I : zl_I A s X M bl σ τ H locs) (hl : lv_has ls 4 [(3, .int (nI (7 * n))), (2, .ref (z_ad M (100, 0, 0))), (1, .ref (z_ad X (30, 0, 0))), (0, .ref b0)]) (hn : 7 * n + 7 ≤ L) (h0 : REL bl σ τ n) (ST : zl_st_feed REL) (KK : zl_K l e A s M p m args below meth c Q REL n b0) : W p l e room_1 s m args below meth c H locs (276 + 243 * zl_nb bl) (27114 + 5098 * zl_nb bl) Q (F0 m 160 ls []) := by
  have hx := C.1
  have hb := C.2.1
  have hL : L ≤ 3584 := C.2.2.2.2.2.2.2.2.2.2.2
  have hnb := zl_nb_le bl
  have hcs : 276 + 243 * zl_nb bl ≤ 600000 ∧ 27114 + 5098 * zl_nb bl ≤ 7302250 := by omega
  obtain ⟨r, ρ, π, h1, h2, h3⟩ := ST bl σ τ n (by omega) h0 (xs (7 * n + 1)) (xs (7 * n + 2)) (xs (7 * n + 3)) (xs (7 * n + 4)) (xs (7 * n + 5))
  refine lv_aload_n hx hb dL_law_160 rfl (lv_at hl 2 rfl) ?_
  refine lv_aload_n hx hb dL_law_161 rfl (lv_at hl 3 rfl) ?_
  refine lv_iload_n hx hb dL_law_162 rfl (lv_at hl 0 rfl) ?_
  refine lv_iconst (v := 1) hx hb dL_law_163 (by decide) ?_
  refine lv_iadd hx hb dL_law_164 ?_
  refine zl_ld (n := n) (d := 1) C I.2.2.2.2.2.2.2.1.2 rfl (by decide) (by decide +kernel) hn dL_law_165 ?_
  refine lv_aload_n hx hb dL_law_166 rfl (lv_at hl 3 rfl) ?_
  refine lv_iload_n hx hb dL_law_167 rfl (lv_at hl 0 rfl) ?_
  refine lv_iconst (v := 2) hx hb dL_law_168 (by decide) ?_
  refine lv_iadd hx hb dL_law_169 ?_
  refine zl_ld (n := n) (d := 2) C I.2.2.2.2.2.2.2.1.2 rfl (by decide) (by decide +kernel) hn dL_law_170 ?_
  refine lv_aload_n hx hb dL_law_171 rfl (lv_at hl 3 rfl) ?_
  refine lv_iload_n hx hb dL_law_172 rfl (lv_at hl 0 rfl) ?_
  refine lv_iconst (v := 3) hx hb dL_law_173 (by decide) ?_
  refine lv_iadd hx hb dL_law_174 ?_
  refine zl_ld (n := n) (d := 3) C I.2.2.2.2.2.2.2.1.2 rfl (by decide) (by decide +kernel) hn dL_law_175 ?_
  refine lv_aload_n hx hb dL_law_176 rfl (lv_at hl 3 rfl) ?_
  refine lv_iload_n hx hb dL_law_177 rfl (lv_at hl 0 rfl) ?_
  refine lv_iconst (v := 4) hx hb dL_law_178 (by decide) ?_
  refine lv_iadd hx hb dL_law_179 ?_
  refine zl_ld (n := n) (d := 4) C I.2.2.2.2.2.2.2.1.2 rfl (by decide) (by decide +kernel) hn dL_law_180 ?_
  refine lv_aload_n hx hb dL_law_181 rfl (lv_at hl 3 rfl) ?_
  refine lv_iload_n hx hb dL_law_182 rfl (lv_at hl 0 rfl) ?_
  refine lv_iconst (v := 5) hx hb dL_law_183 (by decide) ?_
  refine lv_iadd hx hb dL_law_184 ?_
  refine zl_ld (n := n) (d := 5) C I.2.2.2.2.2.2.2.1.2 rfl (by decide) (by decide +kernel) hn dL_law_185 ?_
  refine zl_X (As := [.int (xs (7 * n + 1)), .int (xs (7 * n + 2)), .int (xs (7 * n + 3)), .int (xs (7 * n + 4)), .int (xs (7 * n + 5))]) (rest := []) C I hl.1 (cX_feed l X I.2.2.1.1 I.2.2.1.2.1 h1) zcV_RL_13 rfl rfl rfl (by decide) hcs (Nat.le_of_ble_eq_true rfl) dL_law_186 (fun H locs I => ?_)
  refine lv_pop hx hb dL_law_189 rfl ?_
  refine lv_aload_n hx hb dL_law_190 rfl (lv_at hl 1 rfl) ?_
  refine lv_aload_n hx hb dL_law_191 rfl (lv_at hl 3 rfl) ?_
  refine lv_iload_n hx hb dL_law_192 rfl (lv_at hl 0 rfl) ?_
  refine lv_iconst (v := 1) hx hb dL_law_193 (by decide) ?_
  refine lv_iadd hx hb dL_law_194 ?_
  refine zl_ld (n := n) (d := 1) C I.2.2.2.2.2.2.2.1.2 rfl (by decide) (by decide +kernel) hn dL_law_195 ?_
  refine lv_aload_n hx hb dL_law_196 rfl (lv_at hl 3 rfl) ?_
  refine lv_iload_n hx hb dL_law_197 rfl (lv_at hl 0 rfl) ?_
  refine lv_iconst (v := 2) hx hb dL_law_198 (by decide) ?_
  refine lv_iadd hx hb dL_law_199 ?_
  refine zl_ld (n := n) (d := 2) C I.2.2.2.2.2.2.2.1.2 rfl (by decide) (by decide +kernel) hn dL_law_200 ?_
  refine lv_aload_n hx hb dL_law_201 rfl (lv_at hl 3 rfl) ?_
  refine lv_iload_n hx hb dL_law_202 rfl (lv_at hl 0 rfl) ?_
  refine lv_iconst (v := 3) hx hb dL_law_203 (by decide) ?_
  refine lv_iadd hx hb dL_law_204 ?_
  refine zl_ld (n := n) (d := 3) C I.2.2.2.2.2.2.2.1.2 rfl (by decide) (by decide +kernel) hn dL_law_205 ?_
  refine lv_aload_n hx hb dL_law_206 rfl (lv_at hl 3 rfl) ?_
  refine lv_iload_n hx hb dL_law_207 rfl (lv_at hl 0 rfl) ?_
  refine lv_iconst (v := 4) hx hb dL_law_208 (by decide) ?_
  refine lv_iadd hx hb dL_law_209 ?_
  refine zl_ld (n := n) (d := 4) C I.2.2.2.2.2.2.2.1.2 rfl (by decide) (by decide +kernel) hn dL_law_210 ?_
  refine lv_aload_n hx hb dL_law_211 rfl (lv_at hl 3 rfl) ?_
  refine lv_iload_n hx hb dL_law_212 rfl (lv_at hl 0 rfl) ?_
  refine lv_iconst (v := 5) hx hb dL_law_213 (by decide) ?_
  refine lv_iadd hx hb dL_law_214 ?_
  refine zl_ld (n := n) (d := 5) C I.2.2.2.2.2.2.2.1.2 rfl (by decide) (by decide +kernel) hn dL_law_215 ?_
  refine zl_M (As := [.int (xs (7 * n + 1)), .int (xs (7 * n + 2)), .int (xs (7 * n + 3)), .int (xs (7 * n + 4)), .int (xs (7 * n + 5))]) (rest := []) C I hl.1 (cM_feed l M I.2.2.2.2.2.1 h2) zcV_RL_17 rfl rfl rfl (by decide) hcs (Nat.le_of_ble_eq_true rfl) dL_law_216 (fun H locs I => ?_)
  refine lv_pop hx hb dL_law_219 rfl ?_
  exact lv_goto (tgt := 1026) hx hb dL_law_220 (by decide) (W.widen (by omega) (by omega) (KK _ _ _ _ _ _ _ I hl h3))
set_option maxHeartbeats 4000000 in
set_option maxRecDepth 20000 in
theorem zl_c1 (C : zl_L K V fv A p s m args meth c b0 L xs) (I : zl_I A s X M bl σ τ H locs) (hl : lv_has ls 4 [(3, .int (nI (7 * n))), (2, .ref (z_ad M (100, 0, 0))), (1, .ref (z_ad X (30, 0, 0))), (0, .ref b0)]) (hn : 7 * n + 7 ≤ L) (h0 : REL bl σ τ n) (ST : zl_st_end REL) (KK : zl_K l e A s M p m args below meth c Q REL n b0) : W p l e room_1 s m args below meth c H locs (276 + 243 * zl_nb bl) (27114 + 5098 * zl_nb bl) Q (F0 m 223 ls []) := by
  have hx := C.1
  have hb := C.2.1
  have hL : L ≤ 3584 := C.2.2.2.2.2.2.2.2.2.2.2
  have hnb := zl_nb_le bl
  have hcs : 276 + 243 * zl_nb bl ≤ 600000 ∧ 27114 + 5098 * zl_nb bl ≤ 7302250 := by omega
  obtain ⟨r, ρ, π, h1, h2, h3⟩ := ST bl σ τ n (by omega) h0 (xs (7 * n + 1))
  refine lv_aload_n hx hb dL_law_223 rfl (lv_at hl 2 rfl) ?_
  refine lv_aload_n hx hb dL_law_224 rfl (lv_at hl 3 rfl) ?_
  refine lv_iload_n hx hb dL_law_225 rfl (lv_at hl 0 rfl) ?_
  refine lv_iconst (v := 1) hx hb dL_law_226 (by decide) ?_
  refine lv_iadd hx hb dL_law_227 ?_
  refine zl_ld (n := n) (d := 1) C I.2.2.2.2.2.2.2.1.2 rfl (by decide) (by decide +kernel) hn dL_law_228 ?_
  refine zl_X (As := [.int (xs (7 * n + 1))]) (rest := []) C I hl.1 (cX_end l X I.2.2.1.1 I.2.2.1.2.1 h1) zcV_RL_18 rfl rfl rfl (by decide) hcs (Nat.le_of_ble_eq_true rfl) dL_law_229 (fun H locs I => ?_)
  refine lv_pop hx hb dL_law_232 rfl ?_
  refine lv_aload_n hx hb dL_law_233 rfl (lv_at hl 1 rfl) ?_
  refine lv_aload_n hx hb dL_law_234 rfl (lv_at hl 3 rfl) ?_
  refine lv_iload_n hx hb dL_law_235 rfl (lv_at hl 0 rfl) ?_
  refine lv_iconst (v := 1) hx hb dL_law_236 (by decide) ?_
  refine lv_iadd hx hb dL_law_237 ?_
  refine zl_ld (n := n) (d := 1) C I.2.2.2.2.2.2.2.1.2 rfl (by decide) (by decide +kernel) hn dL_law_238 ?_
  refine zl_M (As := [.int (xs (7 * n + 1))]) (rest := []) C I hl.1 (cM_end l M I.2.2.2.2.2.1 h2) zcV_RL_22 rfl rfl rfl (by decide) hcs (Nat.le_of_ble_eq_true rfl) dL_law_239 (fun H locs I => ?_)
  refine lv_pop hx hb dL_law_242 rfl ?_
  exact lv_goto (tgt := 1026) hx hb dL_law_243 (by decide) (W.widen (by omega) (by omega) (KK _ _ _ _ _ _ _ I hl h3))
set_option maxHeartbeats 4000000 in
set_option maxRecDepth 20000 in
theorem zl_c2 (C : zl_L K V fv A p s m args meth c b0 L xs) (I : zl_I A s X M bl σ τ H locs) (hl : lv_has ls 4 [(3, .int (nI (7 * n))), (2, .ref (z_ad M (100, 0, 0))), (1, .ref (z_ad X (30, 0, 0))), (0, .ref b0)]) (hn : 7 * n + 7 ≤ L) (h0 : REL bl σ τ n) (ST : zl_st_keepers REL) (KK : zl_K l e A s M p m args below meth c Q REL n b0) : W p l e room_1 s m args below meth c H locs (276 + 243 * zl_nb bl) (27114 + 5098 * zl_nb bl) Q (F0 m 246 ls []) := by
  have hx := C.1
  have hb := C.2.1
  have hL : L ≤ 3584 := C.2.2.2.2.2.2.2.2.2.2.2
  have hnb := zl_nb_le bl
  have hcs : 276 + 243 * zl_nb bl ≤ 600000 ∧ 27114 + 5098 * zl_nb bl ≤ 7302250 := by omega
  obtain ⟨r, ρ, π, h1, h2, h3⟩ := ST bl σ τ n (by omega) h0
  refine lv_aload_n hx hb dL_law_246 rfl (lv_at hl 2 rfl) ?_
  refine zl_XS (As := []) (rest := []) C I hl.1 (cX_keepers l X K V fv I.2.2.1.1 I.2.2.1.2.1 h1) zcV_RL_23 rfl rfl rfl (by decide) hcs (Nat.le_of_ble_eq_true rfl) dL_law_247 (fun H locs I => ?_)
  refine lv_pop hx hb dL_law_250 rfl ?_
  refine lv_aload_n hx hb dL_law_251 rfl (lv_at hl 1 rfl) ?_
  refine zl_M (As := []) (rest := []) C I hl.1 (cM_keepers l M I.2.2.2.2.2.1 h2) zcV_RL_27 rfl rfl rfl (by decide) hcs (Nat.le_of_ble_eq_true rfl) dL_law_252 (fun H locs I => ?_)
  refine lv_pop hx hb dL_law_255 rfl ?_
  exact lv_goto (tgt := 1026) hx hb dL_law_256 (by decide) (W.widen (by omega) (by omega) (KK _ _ _ _ _ _ _ I hl h3))
set_option maxHeartbeats 4000000 in
set_option maxRecDepth 20000 in
theorem zl_c3 (C : zl_L K V fv A p s m args meth c b0 L xs) (I : zl_I A s X M bl σ τ H locs) (hl : lv_has ls 4 [(3, .int (nI (7 * n))), (2, .ref (z_ad M (100, 0, 0))), (1, .ref (z_ad X (30, 0, 0))), (0, .ref b0)]) (hn : 7 * n + 7 ≤ L) (h0 : REL bl σ τ n) (ST : zl_st_fault REL) (KK : zl_K l e A s M p m args below meth c Q REL n b0) : W p l e room_1 s m args below meth c H locs (276 + 243 * zl_nb bl) (27114 + 5098 * zl_nb bl) Q (F0 m 259 ls []) := by
  have hx := C.1
  have hb := C.2.1
  have hL : L ≤ 3584 := C.2.2.2.2.2.2.2.2.2.2.2
  have hnb := zl_nb_le bl
  have hcs : 276 + 243 * zl_nb bl ≤ 600000 ∧ 27114 + 5098 * zl_nb bl ≤ 7302250 := by omega
  obtain ⟨r, ρ, π, h1, h2, h3⟩ := ST bl σ τ n (by omega) h0 (xs (7 * n + 1))
  refine lv_aload_n hx hb dL_law_259 rfl (lv_at hl 2 rfl) ?_
  refine lv_aload_n hx hb dL_law_260 rfl (lv_at hl 3 rfl) ?_
  refine lv_iload_n hx hb dL_law_261 rfl (lv_at hl 0 rfl) ?_
  refine lv_iconst (v := 1) hx hb dL_law_262 (by decide) ?_
  refine lv_iadd hx hb dL_law_263 ?_
  refine zl_ld (n := n) (d := 1) C I.2.2.2.2.2.2.2.1.2 rfl (by decide) (by decide +kernel) hn dL_law_264 ?_
  refine zl_X (As := [.int (xs (7 * n + 1))]) (rest := []) C I hl.1 (cX_fault l X I.2.2.1.1 I.2.2.1.2.1 h1) zcV_RL_28 rfl rfl rfl (by decide) hcs (Nat.le_of_ble_eq_true rfl) dL_law_265 (fun H locs I => ?_)
  refine lv_pop hx hb dL_law_268 rfl ?_
  refine lv_aload_n hx hb dL_law_269 rfl (lv_at hl 1 rfl) ?_
  refine lv_aload_n hx hb dL_law_270 rfl (lv_at hl 3 rfl) ?_
  refine lv_iload_n hx hb dL_law_271 rfl (lv_at hl 0 rfl) ?_
  refine lv_iconst (v := 1) hx hb dL_law_272 (by decide) ?_
  refine lv_iadd hx hb dL_law_273 ?_
  refine zl_ld (n := n) (d := 1) C I.2.2.2.2.2.2.2.1.2 rfl (by decide) (by decide +kernel) hn dL_law_274 ?_
  refine zl_M (As := [.int (xs (7 * n + 1))]) (rest := []) C I hl.1 (cM_fault l M I.2.2.2.2.2.1 h2) zcV_RL_31 rfl rfl rfl (by decide) hcs (Nat.le_of_ble_eq_true rfl) dL_law_275 (fun H locs I => ?_)
  refine lv_pop hx hb dL_law_278 rfl ?_
  exact lv_goto (tgt := 1026) hx hb dL_law_279 (by decide) (W.widen (by omega) (by omega) (KK _ _ _ _ _ _ _ I hl h3))
set_option maxHeartbeats 4000000 in
set_option maxRecDepth 20000 in
theorem zl_c4 (C : zl_L K V fv A p s m args meth c b0 L xs) (I : zl_I A s X M bl σ τ H locs) (hl : lv_has ls 4 [(3, .int (nI (7 * n))), (2, .ref (z_ad M (100, 0, 0))), (1, .ref (z_ad X (30, 0, 0))), (0, .ref b0)]) (hn : 7 * n + 7 ≤ L) (h0 : REL bl σ τ n) (ST : zl_st_ask REL) (KK : zl_K l e A s M p m args below meth c Q REL n b0) : W p l e room_1 s m args below meth c H locs (276 + 243 * zl_nb bl) (27114 + 5098 * zl_nb bl) Q (F0 m 282 ls []) := by
  have hx := C.1
  have hb := C.2.1
  have hL : L ≤ 3584 := C.2.2.2.2.2.2.2.2.2.2.2
  have hnb := zl_nb_le bl
  have hcs : 276 + 243 * zl_nb bl ≤ 600000 ∧ 27114 + 5098 * zl_nb bl ≤ 7302250 := by omega
  obtain ⟨r, ρ, π, h1, h2, h3⟩ := ST bl σ τ n (by omega) h0 (xs (7 * n + 1))
  refine lv_aload_n hx hb dL_law_282 rfl (lv_at hl 2 rfl) ?_
  refine lv_aload_n hx hb dL_law_283 rfl (lv_at hl 3 rfl) ?_
  refine lv_iload_n hx hb dL_law_284 rfl (lv_at hl 0 rfl) ?_
  refine lv_iconst (v := 1) hx hb dL_law_285 (by decide) ?_
  refine lv_iadd hx hb dL_law_286 ?_
  refine zl_ld (n := n) (d := 1) C I.2.2.2.2.2.2.2.1.2 rfl (by decide) (by decide +kernel) hn dL_law_287 ?_
  refine zl_X (As := [.int (xs (7 * n + 1))]) (rest := []) C I hl.1 (cX_ask l X I.2.2.1.1 I.2.2.1.2.1 h1) zcV_RL_32 rfl rfl rfl (by decide) hcs (Nat.le_of_ble_eq_true rfl) dL_law_288 (fun H locs I => ?_)
  refine lv_pop hx hb dL_law_291 rfl ?_
  refine lv_aload_n hx hb dL_law_292 rfl (lv_at hl 1 rfl) ?_
  refine lv_aload_n hx hb dL_law_293 rfl (lv_at hl 3 rfl) ?_
  refine lv_iload_n hx hb dL_law_294 rfl (lv_at hl 0 rfl) ?_
  refine lv_iconst (v := 1) hx hb dL_law_295 (by decide) ?_
  refine lv_iadd hx hb dL_law_296 ?_
  refine zl_ld (n := n) (d := 1) C I.2.2.2.2.2.2.2.1.2 rfl (by decide) (by decide +kernel) hn dL_law_297 ?_
  refine zl_M (As := [.int (xs (7 * n + 1))]) (rest := []) C I hl.1 (cM_ask l M I.2.2.2.2.2.1 h2) zcV_RL_35 rfl rfl rfl (by decide) hcs (Nat.le_of_ble_eq_true rfl) dL_law_298 (fun H locs I => ?_)
  refine lv_pop hx hb dL_law_301 rfl ?_
  exact lv_goto (tgt := 1026) hx hb dL_law_302 (by decide) (W.widen (by omega) (by omega) (KK _ _ _ _ _ _ _ I hl h3))
set_option maxHeartbeats 4000000 in
set_option maxRecDepth 20000 in
theorem zl_c5 (C : zl_L K V fv A p s m args meth c b0 L xs) (I : zl_I A s X M bl σ τ H locs) (hl : lv_has ls 4 [(3, .int (nI (7 * n))), (2, .ref (z_ad M (100, 0, 0))), (1, .ref (z_ad X (30, 0, 0))), (0, .ref b0)]) (hn : 7 * n + 7 ≤ L) (h0 : REL bl σ τ n) (ST : zl_st_deliver REL) (KK : zl_K l e A s M p m args below meth c Q REL n b0) : W p l e room_1 s m args below meth c H locs (276 + 243 * zl_nb bl) (27114 + 5098 * zl_nb bl) Q (F0 m 305 ls []) := by
  have hx := C.1
  have hb := C.2.1
  have hL : L ≤ 3584 := C.2.2.2.2.2.2.2.2.2.2.2
  have hnb := zl_nb_le bl
  have hcs : 276 + 243 * zl_nb bl ≤ 600000 ∧ 27114 + 5098 * zl_nb bl ≤ 7302250 := by omega
  obtain ⟨r, ρ, π, h1, h2, h3⟩ := ST bl σ τ n (by omega) h0 (xs (7 * n + 1))
  refine lv_aload_n hx hb dL_law_305 rfl (lv_at hl 2 rfl) ?_
  refine lv_aload_n hx hb dL_law_306 rfl (lv_at hl 3 rfl) ?_
  refine lv_iload_n hx hb dL_law_307 rfl (lv_at hl 0 rfl) ?_
  refine lv_iconst (v := 1) hx hb dL_law_308 (by decide) ?_
  refine lv_iadd hx hb dL_law_309 ?_
  refine zl_ld (n := n) (d := 1) C I.2.2.2.2.2.2.2.1.2 rfl (by decide) (by decide +kernel) hn dL_law_310 ?_
  refine zl_X (As := [.int (xs (7 * n + 1))]) (rest := []) C I hl.1 (cX_deliver l X I.2.2.1.1 I.2.2.1.2.1 h1) zcV_RL_36 rfl rfl rfl (by decide) hcs (Nat.le_of_ble_eq_true rfl) dL_law_311 (fun H locs I => ?_)
  refine lv_pop hx hb dL_law_314 rfl ?_
  refine lv_aload_n hx hb dL_law_315 rfl (lv_at hl 1 rfl) ?_
  refine lv_aload_n hx hb dL_law_316 rfl (lv_at hl 3 rfl) ?_
  refine lv_iload_n hx hb dL_law_317 rfl (lv_at hl 0 rfl) ?_
  refine lv_iconst (v := 1) hx hb dL_law_318 (by decide) ?_
  refine lv_iadd hx hb dL_law_319 ?_
  refine zl_ld (n := n) (d := 1) C I.2.2.2.2.2.2.2.1.2 rfl (by decide) (by decide +kernel) hn dL_law_320 ?_
  refine zl_M (As := [.int (xs (7 * n + 1))]) (rest := []) C I hl.1 (cM_deliver l M I.2.2.2.2.2.1 h2) zcV_RL_39 rfl rfl rfl (by decide) hcs (Nat.le_of_ble_eq_true rfl) dL_law_321 (fun H locs I => ?_)
  refine lv_pop hx hb dL_law_324 rfl ?_
  exact lv_goto (tgt := 1026) hx hb dL_law_325 (by decide) (W.widen (by omega) (by omega) (KK _ _ _ _ _ _ _ I hl h3))
set_option maxHeartbeats 4000000 in
set_option maxRecDepth 20000 in
theorem zl_c6 (C : zl_L K V fv A p s m args meth c b0 L xs) (I : zl_I A s X M bl σ τ H locs) (hl : lv_has ls 4 [(3, .int (nI (7 * n))), (2, .ref (z_ad M (100, 0, 0))), (1, .ref (z_ad X (30, 0, 0))), (0, .ref b0)]) (hn : 7 * n + 7 ≤ L) (h0 : REL bl σ τ n) (ST : zl_st_drop REL) (KK : zl_K l e A s M p m args below meth c Q REL n b0) : W p l e room_1 s m args below meth c H locs (276 + 243 * zl_nb bl) (27114 + 5098 * zl_nb bl) Q (F0 m 328 ls []) := by
  have hx := C.1
  have hb := C.2.1
  have hL : L ≤ 3584 := C.2.2.2.2.2.2.2.2.2.2.2
  have hnb := zl_nb_le bl
  have hcs : 276 + 243 * zl_nb bl ≤ 600000 ∧ 27114 + 5098 * zl_nb bl ≤ 7302250 := by omega
  obtain ⟨r, ρ, π, h1, h2, h3⟩ := ST bl σ τ n (by omega) h0 (xs (7 * n + 1))
  refine lv_aload_n hx hb dL_law_328 rfl (lv_at hl 2 rfl) ?_
  refine lv_aload_n hx hb dL_law_329 rfl (lv_at hl 3 rfl) ?_
  refine lv_iload_n hx hb dL_law_330 rfl (lv_at hl 0 rfl) ?_
  refine lv_iconst (v := 1) hx hb dL_law_331 (by decide) ?_
  refine lv_iadd hx hb dL_law_332 ?_
  refine zl_ld (n := n) (d := 1) C I.2.2.2.2.2.2.2.1.2 rfl (by decide) (by decide +kernel) hn dL_law_333 ?_
  refine zl_X (As := [.int (xs (7 * n + 1))]) (rest := []) C I hl.1 (cX_drop l X I.2.2.1.1 I.2.2.1.2.1 h1) zcV_RL_40 rfl rfl rfl (by decide) hcs (Nat.le_of_ble_eq_true rfl) dL_law_334 (fun H locs I => ?_)
  refine lv_pop hx hb dL_law_337 rfl ?_
  refine lv_aload_n hx hb dL_law_338 rfl (lv_at hl 1 rfl) ?_
  refine lv_aload_n hx hb dL_law_339 rfl (lv_at hl 3 rfl) ?_
  refine lv_iload_n hx hb dL_law_340 rfl (lv_at hl 0 rfl) ?_
  refine lv_iconst (v := 1) hx hb dL_law_341 (by decide) ?_
  refine lv_iadd hx hb dL_law_342 ?_
  refine zl_ld (n := n) (d := 1) C I.2.2.2.2.2.2.2.1.2 rfl (by decide) (by decide +kernel) hn dL_law_343 ?_
  refine zl_M (As := [.int (xs (7 * n + 1))]) (rest := []) C I hl.1 (cM_drop l M I.2.2.2.2.2.1 h2) zcV_RL_43 rfl rfl rfl (by decide) hcs (Nat.le_of_ble_eq_true rfl) dL_law_344 (fun H locs I => ?_)
  refine lv_pop hx hb dL_law_347 rfl ?_
  exact lv_goto (tgt := 1026) hx hb dL_law_348 (by decide) (W.widen (by omega) (by omega) (KK _ _ _ _ _ _ _ I hl h3))
set_option maxHeartbeats 4000000 in
set_option maxRecDepth 20000 in
theorem zl_c7 (C : zl_L K V fv A p s m args meth c b0 L xs) (I : zl_I A s X M bl σ τ H locs) (hl : lv_has ls 4 [(3, .int (nI (7 * n))), (2, .ref (z_ad M (100, 0, 0))), (1, .ref (z_ad X (30, 0, 0))), (0, .ref b0)]) (hn : 7 * n + 7 ≤ L) (h0 : REL bl σ τ n) (ST : zl_st_twice REL) (KK : zl_K l e A s M p m args below meth c Q REL n b0) : W p l e room_1 s m args below meth c H locs (276 + 243 * zl_nb bl) (27114 + 5098 * zl_nb bl) Q (F0 m 351 ls []) := by
  have hx := C.1
  have hb := C.2.1
  have hL : L ≤ 3584 := C.2.2.2.2.2.2.2.2.2.2.2
  have hnb := zl_nb_le bl
  have hcs : 276 + 243 * zl_nb bl ≤ 600000 ∧ 27114 + 5098 * zl_nb bl ≤ 7302250 := by omega
  obtain ⟨r, ρ, π, h1, h2, h3⟩ := ST bl σ τ n (by omega) h0 (xs (7 * n + 1))
  refine lv_aload_n hx hb dL_law_351 rfl (lv_at hl 2 rfl) ?_
  refine lv_aload_n hx hb dL_law_352 rfl (lv_at hl 3 rfl) ?_
  refine lv_iload_n hx hb dL_law_353 rfl (lv_at hl 0 rfl) ?_
  refine lv_iconst (v := 1) hx hb dL_law_354 (by decide) ?_
  refine lv_iadd hx hb dL_law_355 ?_
  refine zl_ld (n := n) (d := 1) C I.2.2.2.2.2.2.2.1.2 rfl (by decide) (by decide +kernel) hn dL_law_356 ?_
  refine zl_X (As := [.int (xs (7 * n + 1))]) (rest := []) C I hl.1 (cX_twice l X I.2.2.1.1 I.2.2.1.2.1 h1) zcV_RL_44 rfl rfl rfl (by decide) hcs (Nat.le_of_ble_eq_true rfl) dL_law_357 (fun H locs I => ?_)
  refine lv_pop hx hb dL_law_360 rfl ?_
  refine lv_aload_n hx hb dL_law_361 rfl (lv_at hl 1 rfl) ?_
  refine lv_aload_n hx hb dL_law_362 rfl (lv_at hl 3 rfl) ?_
  refine lv_iload_n hx hb dL_law_363 rfl (lv_at hl 0 rfl) ?_
  refine lv_iconst (v := 1) hx hb dL_law_364 (by decide) ?_
  refine lv_iadd hx hb dL_law_365 ?_
  refine zl_ld (n := n) (d := 1) C I.2.2.2.2.2.2.2.1.2 rfl (by decide) (by decide +kernel) hn dL_law_366 ?_
  refine zl_M (As := [.int (xs (7 * n + 1))]) (rest := []) C I hl.1 (cM_twice l M I.2.2.2.2.2.1 h2) zcV_RL_47 rfl rfl rfl (by decide) hcs (Nat.le_of_ble_eq_true rfl) dL_law_367 (fun H locs I => ?_)
  refine lv_pop hx hb dL_law_370 rfl ?_
  exact lv_goto (tgt := 1026) hx hb dL_law_371 (by decide) (W.widen (by omega) (by omega) (KK _ _ _ _ _ _ _ I hl h3))
set_option maxHeartbeats 4000000 in
set_option maxRecDepth 20000 in
theorem zl_c8 (C : zl_L K V fv A p s m args meth c b0 L xs) (I : zl_I A s X M bl σ τ H locs) (hl : lv_has ls 4 [(3, .int (nI (7 * n))), (2, .ref (z_ad M (100, 0, 0))), (1, .ref (z_ad X (30, 0, 0))), (0, .ref b0)]) (hn : 7 * n + 7 ≤ L) (h0 : REL bl σ τ n) (ST : zl_st_fall REL) (KK : zl_K l e A s M p m args below meth c Q REL n b0) : W p l e room_1 s m args below meth c H locs (276 + 243 * zl_nb bl) (27114 + 5098 * zl_nb bl) Q (F0 m 374 ls []) := by
  have hx := C.1
  have hb := C.2.1
  have hL : L ≤ 3584 := C.2.2.2.2.2.2.2.2.2.2.2
  have hnb := zl_nb_le bl
  have hcs : 276 + 243 * zl_nb bl ≤ 600000 ∧ 27114 + 5098 * zl_nb bl ≤ 7302250 := by omega
  obtain ⟨r, ρ, π, h1, h2, h3⟩ := ST bl σ τ n (by omega) h0 (xs (7 * n + 1))
  refine lv_aload_n hx hb dL_law_374 rfl (lv_at hl 2 rfl) ?_
  refine lv_aload_n hx hb dL_law_375 rfl (lv_at hl 3 rfl) ?_
  refine lv_iload_n hx hb dL_law_376 rfl (lv_at hl 0 rfl) ?_
  refine lv_iconst (v := 1) hx hb dL_law_377 (by decide) ?_
  refine lv_iadd hx hb dL_law_378 ?_
  refine zl_ld (n := n) (d := 1) C I.2.2.2.2.2.2.2.1.2 rfl (by decide) (by decide +kernel) hn dL_law_379 ?_
  refine zl_X (As := [.int (xs (7 * n + 1))]) (rest := []) C I hl.1 (cX_fall l X I.2.2.1.1 I.2.2.1.2.1 h1) zcV_RL_48 rfl rfl rfl (by decide) hcs (Nat.le_of_ble_eq_true rfl) dL_law_380 (fun H locs I => ?_)
  refine lv_pop hx hb dL_law_383 rfl ?_
  refine lv_aload_n hx hb dL_law_384 rfl (lv_at hl 1 rfl) ?_
  refine lv_aload_n hx hb dL_law_385 rfl (lv_at hl 3 rfl) ?_
  refine lv_iload_n hx hb dL_law_386 rfl (lv_at hl 0 rfl) ?_
  refine lv_iconst (v := 1) hx hb dL_law_387 (by decide) ?_
  refine lv_iadd hx hb dL_law_388 ?_
  refine zl_ld (n := n) (d := 1) C I.2.2.2.2.2.2.2.1.2 rfl (by decide) (by decide +kernel) hn dL_law_389 ?_
  refine zl_M (As := [.int (xs (7 * n + 1))]) (rest := []) C I hl.1 (cM_fall l M I.2.2.2.2.2.1 h2) zcV_RL_52 rfl rfl rfl (by decide) hcs (Nat.le_of_ble_eq_true rfl) dL_law_390 (fun H locs I => ?_)
  refine lv_pop hx hb dL_law_393 rfl ?_
  exact lv_goto (tgt := 1026) hx hb dL_law_394 (by decide) (W.widen (by omega) (by omega) (KK _ _ _ _ _ _ _ I hl h3))
set_option maxHeartbeats 4000000 in
set_option maxRecDepth 20000 in
theorem zl_c9 (C : zl_L K V fv A p s m args meth c b0 L xs) (I : zl_I A s X M bl σ τ H locs) (hl : lv_has ls 4 [(3, .int (nI (7 * n))), (2, .ref (z_ad M (100, 0, 0))), (1, .ref (z_ad X (30, 0, 0))), (0, .ref b0)]) (hn : 7 * n + 7 ≤ L) (h0 : REL bl σ τ n) (ST : zl_st_rise REL) (KK : zl_K l e A s M p m args below meth c Q REL n b0) : W p l e room_1 s m args below meth c H locs (276 + 243 * zl_nb bl) (27114 + 5098 * zl_nb bl) Q (F0 m 397 ls []) := by
  have hx := C.1
  have hb := C.2.1
  have hL : L ≤ 3584 := C.2.2.2.2.2.2.2.2.2.2.2
  have hnb := zl_nb_le bl
  have hcs : 276 + 243 * zl_nb bl ≤ 600000 ∧ 27114 + 5098 * zl_nb bl ≤ 7302250 := by omega
  obtain ⟨r, ρ, π, h1, h2, h3⟩ := ST bl σ τ n (by omega) h0 (xs (7 * n + 1))
  refine lv_aload_n hx hb dL_law_397 rfl (lv_at hl 2 rfl) ?_
  refine lv_aload_n hx hb dL_law_398 rfl (lv_at hl 3 rfl) ?_
  refine lv_iload_n hx hb dL_law_399 rfl (lv_at hl 0 rfl) ?_
  refine lv_iconst (v := 1) hx hb dL_law_400 (by decide) ?_
  refine lv_iadd hx hb dL_law_401 ?_
  refine zl_ld (n := n) (d := 1) C I.2.2.2.2.2.2.2.1.2 rfl (by decide) (by decide +kernel) hn dL_law_402 ?_
  refine zl_X (As := [.int (xs (7 * n + 1))]) (rest := []) C I hl.1 (cX_rise l X I.2.2.1.1 I.2.2.1.2.1 h1) zcV_RL_53 rfl rfl rfl (by decide) hcs (Nat.le_of_ble_eq_true rfl) dL_law_403 (fun H locs I => ?_)
  refine lv_pop hx hb dL_law_406 rfl ?_
  refine lv_aload_n hx hb dL_law_407 rfl (lv_at hl 1 rfl) ?_
  refine lv_aload_n hx hb dL_law_408 rfl (lv_at hl 3 rfl) ?_
  refine lv_iload_n hx hb dL_law_409 rfl (lv_at hl 0 rfl) ?_
  refine lv_iconst (v := 1) hx hb dL_law_410 (by decide) ?_
  refine lv_iadd hx hb dL_law_411 ?_
  refine zl_ld (n := n) (d := 1) C I.2.2.2.2.2.2.2.1.2 rfl (by decide) (by decide +kernel) hn dL_law_412 ?_
  refine zl_M (As := [.int (xs (7 * n + 1))]) (rest := []) C I hl.1 (cM_rise l M I.2.2.2.2.2.1 h2) zcV_RL_56 rfl rfl rfl (by decide) hcs (Nat.le_of_ble_eq_true rfl) dL_law_413 (fun H locs I => ?_)
  refine lv_pop hx hb dL_law_416 rfl ?_
  exact lv_goto (tgt := 1026) hx hb dL_law_417 (by decide) (W.widen (by omega) (by omega) (KK _ _ _ _ _ _ _ I hl h3))
set_option maxHeartbeats 4000000 in
set_option maxRecDepth 20000 in
theorem zl_c10 (C : zl_L K V fv A p s m args meth c b0 L xs) (I : zl_I A s X M bl σ τ H locs) (hl : lv_has ls 4 [(3, .int (nI (7 * n))), (2, .ref (z_ad M (100, 0, 0))), (1, .ref (z_ad X (30, 0, 0))), (0, .ref b0)]) (hn : 7 * n + 7 ≤ L) (h0 : REL bl σ τ n) (ST : zl_st_command REL) (KK : zl_K l e A s M p m args below meth c Q REL n b0) : W p l e room_1 s m args below meth c H locs (276 + 243 * zl_nb bl) (27114 + 5098 * zl_nb bl) Q (F0 m 420 ls []) := by
  have hx := C.1
  have hb := C.2.1
  have hL : L ≤ 3584 := C.2.2.2.2.2.2.2.2.2.2.2
  have hnb := zl_nb_le bl
  have hcs : 276 + 243 * zl_nb bl ≤ 600000 ∧ 27114 + 5098 * zl_nb bl ≤ 7302250 := by omega
  obtain ⟨r, ρ, π, h1, h2, h3⟩ := ST bl σ τ n (by omega) h0 (xs (7 * n + 1)) (xs (7 * n + 2)) (xs (7 * n + 3)) (xs (7 * n + 4)) (xs (7 * n + 5)) (xs (7 * n + 6))
  refine lv_aload_n hx hb dL_law_420 rfl (lv_at hl 2 rfl) ?_
  refine lv_aload_n hx hb dL_law_421 rfl (lv_at hl 3 rfl) ?_
  refine lv_iload_n hx hb dL_law_422 rfl (lv_at hl 0 rfl) ?_
  refine lv_iconst (v := 1) hx hb dL_law_423 (by decide) ?_
  refine lv_iadd hx hb dL_law_424 ?_
  refine zl_ld (n := n) (d := 1) C I.2.2.2.2.2.2.2.1.2 rfl (by decide) (by decide +kernel) hn dL_law_425 ?_
  refine lv_aload_n hx hb dL_law_426 rfl (lv_at hl 3 rfl) ?_
  refine lv_iload_n hx hb dL_law_427 rfl (lv_at hl 0 rfl) ?_
  refine lv_iconst (v := 2) hx hb dL_law_428 (by decide) ?_
  refine lv_iadd hx hb dL_law_429 ?_
  refine zl_ld (n := n) (d := 2) C I.2.2.2.2.2.2.2.1.2 rfl (by decide) (by decide +kernel) hn dL_law_430 ?_
  refine lv_aload_n hx hb dL_law_431 rfl (lv_at hl 3 rfl) ?_
  refine lv_iload_n hx hb dL_law_432 rfl (lv_at hl 0 rfl) ?_
  refine lv_iconst (v := 3) hx hb dL_law_433 (by decide) ?_
  refine lv_iadd hx hb dL_law_434 ?_
  refine zl_ld (n := n) (d := 3) C I.2.2.2.2.2.2.2.1.2 rfl (by decide) (by decide +kernel) hn dL_law_435 ?_
  refine lv_aload_n hx hb dL_law_436 rfl (lv_at hl 3 rfl) ?_
  refine lv_iload_n hx hb dL_law_437 rfl (lv_at hl 0 rfl) ?_
  refine lv_iconst (v := 4) hx hb dL_law_438 (by decide) ?_
  refine lv_iadd hx hb dL_law_439 ?_
  refine zl_ld (n := n) (d := 4) C I.2.2.2.2.2.2.2.1.2 rfl (by decide) (by decide +kernel) hn dL_law_440 ?_
  refine lv_aload_n hx hb dL_law_441 rfl (lv_at hl 3 rfl) ?_
  refine lv_iload_n hx hb dL_law_442 rfl (lv_at hl 0 rfl) ?_
  refine lv_iconst (v := 5) hx hb dL_law_443 (by decide) ?_
  refine lv_iadd hx hb dL_law_444 ?_
  refine zl_ld (n := n) (d := 5) C I.2.2.2.2.2.2.2.1.2 rfl (by decide) (by decide +kernel) hn dL_law_445 ?_
  refine lv_aload_n hx hb dL_law_446 rfl (lv_at hl 3 rfl) ?_
  refine lv_iload_n hx hb dL_law_447 rfl (lv_at hl 0 rfl) ?_
  refine lv_bipush (v := 6) hx hb dL_law_448 (by decide) ?_
  refine lv_iadd hx hb dL_law_450 ?_
  refine zl_ld (n := n) (d := 6) C I.2.2.2.2.2.2.2.1.2 rfl (by decide) (by decide +kernel) hn dL_law_451 ?_
  refine zl_X (As := [.int (xs (7 * n + 1)), .int (xs (7 * n + 2)), .int (xs (7 * n + 3)), .int (xs (7 * n + 4)), .int (xs (7 * n + 5)), .int (xs (7 * n + 6))]) (rest := []) C I hl.1 (cX_command l X I.2.2.1.1 I.2.2.1.2.1 h1) zcV_RL_57 rfl rfl rfl (by decide) hcs (Nat.le_of_ble_eq_true rfl) dL_law_452 (fun H locs I => ?_)
  refine lv_pop hx hb dL_law_455 rfl ?_
  refine lv_aload_n hx hb dL_law_456 rfl (lv_at hl 1 rfl) ?_
  refine lv_aload_n hx hb dL_law_457 rfl (lv_at hl 3 rfl) ?_
  refine lv_iload_n hx hb dL_law_458 rfl (lv_at hl 0 rfl) ?_
  refine lv_iconst (v := 1) hx hb dL_law_459 (by decide) ?_
  refine lv_iadd hx hb dL_law_460 ?_
  refine zl_ld (n := n) (d := 1) C I.2.2.2.2.2.2.2.1.2 rfl (by decide) (by decide +kernel) hn dL_law_461 ?_
  refine lv_aload_n hx hb dL_law_462 rfl (lv_at hl 3 rfl) ?_
  refine lv_iload_n hx hb dL_law_463 rfl (lv_at hl 0 rfl) ?_
  refine lv_iconst (v := 2) hx hb dL_law_464 (by decide) ?_
  refine lv_iadd hx hb dL_law_465 ?_
  refine zl_ld (n := n) (d := 2) C I.2.2.2.2.2.2.2.1.2 rfl (by decide) (by decide +kernel) hn dL_law_466 ?_
  refine lv_aload_n hx hb dL_law_467 rfl (lv_at hl 3 rfl) ?_
  refine lv_iload_n hx hb dL_law_468 rfl (lv_at hl 0 rfl) ?_
  refine lv_iconst (v := 3) hx hb dL_law_469 (by decide) ?_
  refine lv_iadd hx hb dL_law_470 ?_
  refine zl_ld (n := n) (d := 3) C I.2.2.2.2.2.2.2.1.2 rfl (by decide) (by decide +kernel) hn dL_law_471 ?_
  refine lv_aload_n hx hb dL_law_472 rfl (lv_at hl 3 rfl) ?_
  refine lv_iload_n hx hb dL_law_473 rfl (lv_at hl 0 rfl) ?_
  refine lv_iconst (v := 4) hx hb dL_law_474 (by decide) ?_
  refine lv_iadd hx hb dL_law_475 ?_
  refine zl_ld (n := n) (d := 4) C I.2.2.2.2.2.2.2.1.2 rfl (by decide) (by decide +kernel) hn dL_law_476 ?_
  refine lv_aload_n hx hb dL_law_477 rfl (lv_at hl 3 rfl) ?_
  refine lv_iload_n hx hb dL_law_478 rfl (lv_at hl 0 rfl) ?_
  refine lv_iconst (v := 5) hx hb dL_law_479 (by decide) ?_
  refine lv_iadd hx hb dL_law_480 ?_
  refine zl_ld (n := n) (d := 5) C I.2.2.2.2.2.2.2.1.2 rfl (by decide) (by decide +kernel) hn dL_law_481 ?_
  refine lv_aload_n hx hb dL_law_482 rfl (lv_at hl 3 rfl) ?_
  refine lv_iload_n hx hb dL_law_483 rfl (lv_at hl 0 rfl) ?_
  refine lv_bipush (v := 6) hx hb dL_law_484 (by decide) ?_
  refine lv_iadd hx hb dL_law_486 ?_
  refine zl_ld (n := n) (d := 6) C I.2.2.2.2.2.2.2.1.2 rfl (by decide) (by decide +kernel) hn dL_law_487 ?_
  refine zl_M (As := [.int (xs (7 * n + 1)), .int (xs (7 * n + 2)), .int (xs (7 * n + 3)), .int (xs (7 * n + 4)), .int (xs (7 * n + 5)), .int (xs (7 * n + 6))]) (rest := []) C I hl.1 (cM_command l M I.2.2.2.2.2.1 h2) zcV_RL_61 rfl rfl rfl (by decide) hcs (Nat.le_of_ble_eq_true rfl) dL_law_488 (fun H locs I => ?_)
  refine lv_pop hx hb dL_law_491 rfl ?_
  exact lv_goto (tgt := 1026) hx hb dL_law_492 (by decide) (W.widen (by omega) (by omega) (KK _ _ _ _ _ _ _ I hl h3))
set_option maxHeartbeats 4000000 in
set_option maxRecDepth 20000 in
theorem zl_c11 (C : zl_L K V fv A p s m args meth c b0 L xs) (I : zl_I A s X M bl σ τ H locs) (hl : lv_has ls 4 [(3, .int (nI (7 * n))), (2, .ref (z_ad M (100, 0, 0))), (1, .ref (z_ad X (30, 0, 0))), (0, .ref b0)]) (hn : 7 * n + 7 ≤ L) (h0 : REL bl σ τ n) (ST : zl_st_append REL) (KK : zl_K l e A s M p m args below meth c Q REL n b0) : W p l e room_1 s m args below meth c H locs (276 + 243 * zl_nb bl) (27114 + 5098 * zl_nb bl) Q (F0 m 495 ls []) := by
  have hx := C.1
  have hb := C.2.1
  have hL : L ≤ 3584 := C.2.2.2.2.2.2.2.2.2.2.2
  have hnb := zl_nb_le bl
  have hcs : 276 + 243 * zl_nb bl ≤ 600000 ∧ 27114 + 5098 * zl_nb bl ≤ 7302250 := by omega
  obtain ⟨r, ρ, π, h1, h2, h3⟩ := ST bl σ τ n (by omega) h0 (xs (7 * n + 1)) (xs (7 * n + 2))
  refine lv_aload_n hx hb dL_law_495 rfl (lv_at hl 2 rfl) ?_
  refine lv_aload_n hx hb dL_law_496 rfl (lv_at hl 3 rfl) ?_
  refine lv_iload_n hx hb dL_law_497 rfl (lv_at hl 0 rfl) ?_
  refine lv_iconst (v := 1) hx hb dL_law_498 (by decide) ?_
  refine lv_iadd hx hb dL_law_499 ?_
  refine zl_ld (n := n) (d := 1) C I.2.2.2.2.2.2.2.1.2 rfl (by decide) (by decide +kernel) hn dL_law_500 ?_
  refine lv_aload_n hx hb dL_law_501 rfl (lv_at hl 3 rfl) ?_
  refine lv_iload_n hx hb dL_law_502 rfl (lv_at hl 0 rfl) ?_
  refine lv_iconst (v := 2) hx hb dL_law_503 (by decide) ?_
  refine lv_iadd hx hb dL_law_504 ?_
  refine zl_ld (n := n) (d := 2) C I.2.2.2.2.2.2.2.1.2 rfl (by decide) (by decide +kernel) hn dL_law_505 ?_
  refine zl_X (As := [.int (xs (7 * n + 1)), .int (xs (7 * n + 2))]) (rest := []) C I hl.1 (cX_append l X I.2.2.1.1 I.2.2.1.2.1 h1) zcV_RL_62 rfl rfl rfl (by decide) hcs (Nat.le_of_ble_eq_true rfl) dL_law_506 (fun H locs I => ?_)
  refine lv_pop hx hb dL_law_509 rfl ?_
  refine lv_aload_n hx hb dL_law_510 rfl (lv_at hl 1 rfl) ?_
  refine lv_aload_n hx hb dL_law_511 rfl (lv_at hl 3 rfl) ?_
  refine lv_iload_n hx hb dL_law_512 rfl (lv_at hl 0 rfl) ?_
  refine lv_iconst (v := 1) hx hb dL_law_513 (by decide) ?_
  refine lv_iadd hx hb dL_law_514 ?_
  refine zl_ld (n := n) (d := 1) C I.2.2.2.2.2.2.2.1.2 rfl (by decide) (by decide +kernel) hn dL_law_515 ?_
  refine lv_aload_n hx hb dL_law_516 rfl (lv_at hl 3 rfl) ?_
  refine lv_iload_n hx hb dL_law_517 rfl (lv_at hl 0 rfl) ?_
  refine lv_iconst (v := 2) hx hb dL_law_518 (by decide) ?_
  refine lv_iadd hx hb dL_law_519 ?_
  refine zl_ld (n := n) (d := 2) C I.2.2.2.2.2.2.2.1.2 rfl (by decide) (by decide +kernel) hn dL_law_520 ?_
  refine zl_M (As := [.int (xs (7 * n + 1)), .int (xs (7 * n + 2))]) (rest := []) C I hl.1 (cM_append l M I.2.2.2.2.2.1 h2) zcV_RL_66 rfl rfl rfl (by decide) hcs (Nat.le_of_ble_eq_true rfl) dL_law_521 (fun H locs I => ?_)
  refine lv_pop hx hb dL_law_524 rfl ?_
  exact lv_goto (tgt := 1026) hx hb dL_law_525 (by decide) (W.widen (by omega) (by omega) (KK _ _ _ _ _ _ _ I hl h3))
set_option maxHeartbeats 4000000 in
set_option maxRecDepth 20000 in
theorem zl_c12 (C : zl_L K V fv A p s m args meth c b0 L xs) (I : zl_I A s X M bl σ τ H locs) (hl : lv_has ls 4 [(3, .int (nI (7 * n))), (2, .ref (z_ad M (100, 0, 0))), (1, .ref (z_ad X (30, 0, 0))), (0, .ref b0)]) (hn : 7 * n + 7 ≤ L) (h0 : REL bl σ τ n) (ST : zl_st_fold REL) (KK : zl_K l e A s M p m args below meth c Q REL n b0) : W p l e room_1 s m args below meth c H locs (276 + 243 * zl_nb bl) (27114 + 5098 * zl_nb bl) Q (F0 m 528 ls []) := by
  have hx := C.1
  have hb := C.2.1
  have hL : L ≤ 3584 := C.2.2.2.2.2.2.2.2.2.2.2
  have hnb := zl_nb_le bl
  have hcs : 276 + 243 * zl_nb bl ≤ 600000 ∧ 27114 + 5098 * zl_nb bl ≤ 7302250 := by omega
  obtain ⟨r, ρ, π, h1, h2, h3⟩ := ST bl σ τ n (by omega) h0 (xs (7 * n + 1)) (xs (7 * n + 2))
  refine lv_aload_n hx hb dL_law_528 rfl (lv_at hl 2 rfl) ?_
  refine lv_aload_n hx hb dL_law_529 rfl (lv_at hl 3 rfl) ?_
  refine lv_iload_n hx hb dL_law_530 rfl (lv_at hl 0 rfl) ?_
  refine lv_iconst (v := 1) hx hb dL_law_531 (by decide) ?_
  refine lv_iadd hx hb dL_law_532 ?_
  refine zl_ld (n := n) (d := 1) C I.2.2.2.2.2.2.2.1.2 rfl (by decide) (by decide +kernel) hn dL_law_533 ?_
  refine lv_aload_n hx hb dL_law_534 rfl (lv_at hl 3 rfl) ?_
  refine lv_iload_n hx hb dL_law_535 rfl (lv_at hl 0 rfl) ?_
  refine lv_iconst (v := 2) hx hb dL_law_536 (by decide) ?_
  refine lv_iadd hx hb dL_law_537 ?_
  refine zl_ld (n := n) (d := 2) C I.2.2.2.2.2.2.2.1.2 rfl (by decide) (by decide +kernel) hn dL_law_538 ?_
  refine zl_X (As := [.int (xs (7 * n + 1)), .int (xs (7 * n + 2))]) (rest := []) C I hl.1 (cX_fold l X I.2.2.1.1 I.2.2.1.2.1 h1) zcV_RL_67 rfl rfl rfl (by decide) hcs (Nat.le_of_ble_eq_true rfl) dL_law_539 (fun H locs I => ?_)
  refine lv_pop hx hb dL_law_542 rfl ?_
  refine lv_aload_n hx hb dL_law_543 rfl (lv_at hl 1 rfl) ?_
  refine lv_aload_n hx hb dL_law_544 rfl (lv_at hl 3 rfl) ?_
  refine lv_iload_n hx hb dL_law_545 rfl (lv_at hl 0 rfl) ?_
  refine lv_iconst (v := 1) hx hb dL_law_546 (by decide) ?_
  refine lv_iadd hx hb dL_law_547 ?_
  refine zl_ld (n := n) (d := 1) C I.2.2.2.2.2.2.2.1.2 rfl (by decide) (by decide +kernel) hn dL_law_548 ?_
  refine lv_aload_n hx hb dL_law_549 rfl (lv_at hl 3 rfl) ?_
  refine lv_iload_n hx hb dL_law_550 rfl (lv_at hl 0 rfl) ?_
  refine lv_iconst (v := 2) hx hb dL_law_551 (by decide) ?_
  refine lv_iadd hx hb dL_law_552 ?_
  refine zl_ld (n := n) (d := 2) C I.2.2.2.2.2.2.2.1.2 rfl (by decide) (by decide +kernel) hn dL_law_553 ?_
  refine zl_M (As := [.int (xs (7 * n + 1)), .int (xs (7 * n + 2))]) (rest := []) C I hl.1 (cM_fold l M I.2.2.2.2.2.1 h2) zcV_RL_70 rfl rfl rfl (by decide) hcs (Nat.le_of_ble_eq_true rfl) dL_law_554 (fun H locs I => ?_)
  refine lv_pop hx hb dL_law_557 rfl ?_
  exact lv_goto (tgt := 1026) hx hb dL_law_558 (by decide) (W.widen (by omega) (by omega) (KK _ _ _ _ _ _ _ I hl h3))
set_option maxHeartbeats 4000000 in
set_option maxRecDepth 20000 in
theorem zl_c13 (C : zl_L K V fv A p s m args meth c b0 L xs) (I : zl_I A s X M bl σ τ H locs) (hl : lv_has ls 4 [(3, .int (nI (7 * n))), (2, .ref (z_ad M (100, 0, 0))), (1, .ref (z_ad X (30, 0, 0))), (0, .ref b0)]) (hn : 7 * n + 7 ≤ L) (h0 : REL bl σ τ n) (ST : zl_st_read REL) (KK : zl_K l e A s M p m args below meth c Q REL n b0) : W p l e room_1 s m args below meth c H locs (276 + 243 * zl_nb bl) (27114 + 5098 * zl_nb bl) Q (F0 m 561 ls []) := by
  have hx := C.1
  have hb := C.2.1
  have hL : L ≤ 3584 := C.2.2.2.2.2.2.2.2.2.2.2
  have hnb := zl_nb_le bl
  have hcs : 276 + 243 * zl_nb bl ≤ 600000 ∧ 27114 + 5098 * zl_nb bl ≤ 7302250 := by omega
  obtain ⟨r, ρ, π, h1, h2, h3⟩ := ST bl σ τ n (by omega) h0 (xs (7 * n + 1)) (xs (7 * n + 2))
  refine lv_aload_n hx hb dL_law_561 rfl (lv_at hl 2 rfl) ?_
  refine lv_aload_n hx hb dL_law_562 rfl (lv_at hl 3 rfl) ?_
  refine lv_iload_n hx hb dL_law_563 rfl (lv_at hl 0 rfl) ?_
  refine lv_iconst (v := 1) hx hb dL_law_564 (by decide) ?_
  refine lv_iadd hx hb dL_law_565 ?_
  refine zl_ld (n := n) (d := 1) C I.2.2.2.2.2.2.2.1.2 rfl (by decide) (by decide +kernel) hn dL_law_566 ?_
  refine lv_aload_n hx hb dL_law_567 rfl (lv_at hl 3 rfl) ?_
  refine lv_iload_n hx hb dL_law_568 rfl (lv_at hl 0 rfl) ?_
  refine lv_iconst (v := 2) hx hb dL_law_569 (by decide) ?_
  refine lv_iadd hx hb dL_law_570 ?_
  refine zl_ld (n := n) (d := 2) C I.2.2.2.2.2.2.2.1.2 rfl (by decide) (by decide +kernel) hn dL_law_571 ?_
  refine zl_X (As := [.int (xs (7 * n + 1)), .int (xs (7 * n + 2))]) (rest := []) C I hl.1 (cX_read l X I.2.2.1.1 I.2.2.1.2.1 h1) zcV_RL_71 rfl rfl rfl (by decide) hcs (Nat.le_of_ble_eq_true rfl) dL_law_572 (fun H locs I => ?_)
  refine lv_pop hx hb dL_law_575 rfl ?_
  refine lv_aload_n hx hb dL_law_576 rfl (lv_at hl 1 rfl) ?_
  refine lv_aload_n hx hb dL_law_577 rfl (lv_at hl 3 rfl) ?_
  refine lv_iload_n hx hb dL_law_578 rfl (lv_at hl 0 rfl) ?_
  refine lv_iconst (v := 1) hx hb dL_law_579 (by decide) ?_
  refine lv_iadd hx hb dL_law_580 ?_
  refine zl_ld (n := n) (d := 1) C I.2.2.2.2.2.2.2.1.2 rfl (by decide) (by decide +kernel) hn dL_law_581 ?_
  refine lv_aload_n hx hb dL_law_582 rfl (lv_at hl 3 rfl) ?_
  refine lv_iload_n hx hb dL_law_583 rfl (lv_at hl 0 rfl) ?_
  refine lv_iconst (v := 2) hx hb dL_law_584 (by decide) ?_
  refine lv_iadd hx hb dL_law_585 ?_
  refine zl_ld (n := n) (d := 2) C I.2.2.2.2.2.2.2.1.2 rfl (by decide) (by decide +kernel) hn dL_law_586 ?_
  refine zl_M (As := [.int (xs (7 * n + 1)), .int (xs (7 * n + 2))]) (rest := []) C I hl.1 (cM_read l M I.2.2.2.2.2.1 h2) zcV_RL_74 rfl rfl rfl (by decide) hcs (Nat.le_of_ble_eq_true rfl) dL_law_587 (fun H locs I => ?_)
  refine lv_pop hx hb dL_law_590 rfl ?_
  exact lv_goto (tgt := 1026) hx hb dL_law_591 (by decide) (W.widen (by omega) (by omega) (KK _ _ _ _ _ _ _ I hl h3))
set_option maxHeartbeats 4000000 in
set_option maxRecDepth 20000 in
theorem zl_c14 (C : zl_L K V fv A p s m args meth c b0 L xs) (I : zl_I A s X M bl σ τ H locs) (hl : lv_has ls 4 [(3, .int (nI (7 * n))), (2, .ref (z_ad M (100, 0, 0))), (1, .ref (z_ad X (30, 0, 0))), (0, .ref b0)]) (hn : 7 * n + 7 ≤ L) (h0 : REL bl σ τ n) (ST : zl_st_good REL) (KK : zl_K l e A s M p m args below meth c Q REL n b0) : W p l e room_1 s m args below meth c H locs (276 + 243 * zl_nb bl) (27114 + 5098 * zl_nb bl) Q (F0 m 594 ls []) := by
  have hx := C.1
  have hb := C.2.1
  have hL : L ≤ 3584 := C.2.2.2.2.2.2.2.2.2.2.2
  have hnb := zl_nb_le bl
  have hcs : 276 + 243 * zl_nb bl ≤ 600000 ∧ 27114 + 5098 * zl_nb bl ≤ 7302250 := by omega
  obtain ⟨r, r2, ρ, π, h1, h2, h3⟩ := ST bl σ τ n (by omega) h0 (xs (7 * n + 1))
  refine lv_aload_n hx hb dL_law_594 rfl (lv_at hl 2 rfl) ?_
  refine lv_aload_n hx hb dL_law_595 rfl (lv_at hl 3 rfl) ?_
  refine lv_iload_n hx hb dL_law_596 rfl (lv_at hl 0 rfl) ?_
  refine lv_iconst (v := 1) hx hb dL_law_597 (by decide) ?_
  refine lv_iadd hx hb dL_law_598 ?_
  refine zl_ld (n := n) (d := 1) C I.2.2.2.2.2.2.2.1.2 rfl (by decide) (by decide +kernel) hn dL_law_599 ?_
  refine zl_X (As := [.int (xs (7 * n + 1))]) (rest := []) C I hl.1 (cX_good l X I.2.2.1.1 I.2.2.1.2.1 h1) zcV_RL_75 rfl rfl rfl (by decide) hcs (Nat.le_of_ble_eq_true rfl) dL_law_600 (fun H locs I => ?_)
  refine lv_pop hx hb dL_law_603 rfl ?_
  refine lv_aload_n hx hb dL_law_604 rfl (lv_at hl 1 rfl) ?_
  refine lv_aload_n hx hb dL_law_605 rfl (lv_at hl 3 rfl) ?_
  refine lv_iload_n hx hb dL_law_606 rfl (lv_at hl 0 rfl) ?_
  refine lv_iconst (v := 1) hx hb dL_law_607 (by decide) ?_
  refine lv_iadd hx hb dL_law_608 ?_
  refine zl_ld (n := n) (d := 1) C I.2.2.2.2.2.2.2.1.2 rfl (by decide) (by decide +kernel) hn dL_law_609 ?_
  refine zl_M (As := [.int (xs (7 * n + 1))]) (rest := []) C I hl.1 (cM_good l M I.2.2.2.2.2.1 h2) zcV_RL_78 rfl rfl rfl (by decide) hcs (Nat.le_of_ble_eq_true rfl) dL_law_610 (fun H locs I => ?_)
  refine lv_pop hx hb dL_law_613 rfl ?_
  exact lv_goto (tgt := 1026) hx hb dL_law_614 (by decide) (W.widen (by omega) (by omega) (KK _ _ _ _ _ _ _ I hl h3))
set_option maxHeartbeats 4000000 in
set_option maxRecDepth 20000 in
theorem zl_c15 (C : zl_L K V fv A p s m args meth c b0 L xs) (I : zl_I A s X M bl σ τ H locs) (hl : lv_has ls 4 [(3, .int (nI (7 * n))), (2, .ref (z_ad M (100, 0, 0))), (1, .ref (z_ad X (30, 0, 0))), (0, .ref b0)]) (hn : 7 * n + 7 ≤ L) (h0 : REL bl σ τ n) (ST : zl_st_keeper REL) (KK : zl_K l e A s M p m args below meth c Q REL n b0) : W p l e room_1 s m args below meth c H locs (276 + 243 * zl_nb bl) (27114 + 5098 * zl_nb bl) Q (F0 m 617 ls []) := by
  have hx := C.1
  have hb := C.2.1
  have hL : L ≤ 3584 := C.2.2.2.2.2.2.2.2.2.2.2
  have hnb := zl_nb_le bl
  have hcs : 276 + 243 * zl_nb bl ≤ 600000 ∧ 27114 + 5098 * zl_nb bl ≤ 7302250 := by omega
  obtain ⟨r, ρ, π, h1, h2, h3⟩ := ST bl σ τ n (by omega) h0 (xs (7 * n + 1)) (xs (7 * n + 2))
  refine lv_aload_n hx hb dL_law_617 rfl (lv_at hl 2 rfl) ?_
  refine lv_aload_n hx hb dL_law_618 rfl (lv_at hl 3 rfl) ?_
  refine lv_iload_n hx hb dL_law_619 rfl (lv_at hl 0 rfl) ?_
  refine lv_iconst (v := 1) hx hb dL_law_620 (by decide) ?_
  refine lv_iadd hx hb dL_law_621 ?_
  refine zl_ld (n := n) (d := 1) C I.2.2.2.2.2.2.2.1.2 rfl (by decide) (by decide +kernel) hn dL_law_622 ?_
  refine lv_aload_n hx hb dL_law_623 rfl (lv_at hl 3 rfl) ?_
  refine lv_iload_n hx hb dL_law_624 rfl (lv_at hl 0 rfl) ?_
  refine lv_iconst (v := 2) hx hb dL_law_625 (by decide) ?_
  refine lv_iadd hx hb dL_law_626 ?_
  refine zl_ld (n := n) (d := 2) C I.2.2.2.2.2.2.2.1.2 rfl (by decide) (by decide +kernel) hn dL_law_627 ?_
  refine zl_X (As := [.int (xs (7 * n + 1)), .int (xs (7 * n + 2))]) (rest := []) C I hl.1 (cX_keeper l X I.2.2.1.1 I.2.2.1.2.1 h1) zcV_RL_79 rfl rfl rfl (by decide) hcs (Nat.le_of_ble_eq_true rfl) dL_law_628 (fun H locs I => ?_)
  refine lv_pop hx hb dL_law_631 rfl ?_
  refine lv_aload_n hx hb dL_law_632 rfl (lv_at hl 1 rfl) ?_
  refine lv_aload_n hx hb dL_law_633 rfl (lv_at hl 3 rfl) ?_
  refine lv_iload_n hx hb dL_law_634 rfl (lv_at hl 0 rfl) ?_
  refine lv_iconst (v := 1) hx hb dL_law_635 (by decide) ?_
  refine lv_iadd hx hb dL_law_636 ?_
  refine zl_ld (n := n) (d := 1) C I.2.2.2.2.2.2.2.1.2 rfl (by decide) (by decide +kernel) hn dL_law_637 ?_
  refine lv_aload_n hx hb dL_law_638 rfl (lv_at hl 3 rfl) ?_
  refine lv_iload_n hx hb dL_law_639 rfl (lv_at hl 0 rfl) ?_
  refine lv_iconst (v := 2) hx hb dL_law_640 (by decide) ?_
  refine lv_iadd hx hb dL_law_641 ?_
  refine zl_ld (n := n) (d := 2) C I.2.2.2.2.2.2.2.1.2 rfl (by decide) (by decide +kernel) hn dL_law_642 ?_
  refine zl_M (As := [.int (xs (7 * n + 1)), .int (xs (7 * n + 2))]) (rest := []) C I hl.1 (cM_keeper l M I.2.2.2.2.2.1 h2) zcV_RL_82 rfl rfl rfl (by decide) hcs (Nat.le_of_ble_eq_true rfl) dL_law_643 (fun H locs I => ?_)
  refine lv_pop hx hb dL_law_646 rfl ?_
  exact lv_goto (tgt := 1026) hx hb dL_law_647 (by decide) (W.widen (by omega) (by omega) (KK _ _ _ _ _ _ _ I hl h3))
set_option maxHeartbeats 4000000 in
set_option maxRecDepth 20000 in
theorem zl_c16 (C : zl_L K V fv A p s m args meth c b0 L xs) (I : zl_I A s X M bl σ τ H locs) (hl : lv_has ls 4 [(3, .int (nI (7 * n))), (2, .ref (z_ad M (100, 0, 0))), (1, .ref (z_ad X (30, 0, 0))), (0, .ref b0)]) (hn : 7 * n + 7 ≤ L) (h0 : REL bl σ τ n) (ST : zl_st_entry REL) (KK : zl_K l e A s M p m args below meth c Q REL n b0) : W p l e room_1 s m args below meth c H locs (276 + 243 * zl_nb bl) (27114 + 5098 * zl_nb bl) Q (F0 m 650 ls []) := by
  have hx := C.1
  have hb := C.2.1
  have hL : L ≤ 3584 := C.2.2.2.2.2.2.2.2.2.2.2
  have hnb := zl_nb_le bl
  have hcs : 276 + 243 * zl_nb bl ≤ 600000 ∧ 27114 + 5098 * zl_nb bl ≤ 7302250 := by omega
  obtain ⟨r, ρ, π, h1, h2, h3⟩ := ST bl σ τ n (by omega) h0 (xs (7 * n + 1)) (xs (7 * n + 2)) (xs (7 * n + 3))
  refine lv_aload_n hx hb dL_law_650 rfl (lv_at hl 2 rfl) ?_
  refine lv_aload_n hx hb dL_law_651 rfl (lv_at hl 3 rfl) ?_
  refine lv_iload_n hx hb dL_law_652 rfl (lv_at hl 0 rfl) ?_
  refine lv_iconst (v := 1) hx hb dL_law_653 (by decide) ?_
  refine lv_iadd hx hb dL_law_654 ?_
  refine zl_ld (n := n) (d := 1) C I.2.2.2.2.2.2.2.1.2 rfl (by decide) (by decide +kernel) hn dL_law_655 ?_
  refine lv_aload_n hx hb dL_law_656 rfl (lv_at hl 3 rfl) ?_
  refine lv_iload_n hx hb dL_law_657 rfl (lv_at hl 0 rfl) ?_
  refine lv_iconst (v := 2) hx hb dL_law_658 (by decide) ?_
  refine lv_iadd hx hb dL_law_659 ?_
  refine zl_ld (n := n) (d := 2) C I.2.2.2.2.2.2.2.1.2 rfl (by decide) (by decide +kernel) hn dL_law_660 ?_
  refine lv_aload_n hx hb dL_law_661 rfl (lv_at hl 3 rfl) ?_
  refine lv_iload_n hx hb dL_law_662 rfl (lv_at hl 0 rfl) ?_
  refine lv_iconst (v := 3) hx hb dL_law_663 (by decide) ?_
  refine lv_iadd hx hb dL_law_664 ?_
  refine zl_ld (n := n) (d := 3) C I.2.2.2.2.2.2.2.1.2 rfl (by decide) (by decide +kernel) hn dL_law_665 ?_
  refine zl_X (As := [.int (xs (7 * n + 1)), .int (xs (7 * n + 2)), .int (xs (7 * n + 3))]) (rest := []) C I hl.1 (cX_entry l X I.2.2.1.1 I.2.2.1.2.1 h1) zcV_RL_83 rfl rfl rfl (by decide) hcs (Nat.le_of_ble_eq_true rfl) dL_law_666 (fun H locs I => ?_)
  refine lv_pop hx hb dL_law_669 rfl ?_
  refine lv_aload_n hx hb dL_law_670 rfl (lv_at hl 1 rfl) ?_
  refine lv_aload_n hx hb dL_law_671 rfl (lv_at hl 3 rfl) ?_
  refine lv_iload_n hx hb dL_law_672 rfl (lv_at hl 0 rfl) ?_
  refine lv_iconst (v := 1) hx hb dL_law_673 (by decide) ?_
  refine lv_iadd hx hb dL_law_674 ?_
  refine zl_ld (n := n) (d := 1) C I.2.2.2.2.2.2.2.1.2 rfl (by decide) (by decide +kernel) hn dL_law_675 ?_
  refine lv_aload_n hx hb dL_law_676 rfl (lv_at hl 3 rfl) ?_
  refine lv_iload_n hx hb dL_law_677 rfl (lv_at hl 0 rfl) ?_
  refine lv_iconst (v := 2) hx hb dL_law_678 (by decide) ?_
  refine lv_iadd hx hb dL_law_679 ?_
  refine zl_ld (n := n) (d := 2) C I.2.2.2.2.2.2.2.1.2 rfl (by decide) (by decide +kernel) hn dL_law_680 ?_
  refine lv_aload_n hx hb dL_law_681 rfl (lv_at hl 3 rfl) ?_
  refine lv_iload_n hx hb dL_law_682 rfl (lv_at hl 0 rfl) ?_
  refine lv_iconst (v := 3) hx hb dL_law_683 (by decide) ?_
  refine lv_iadd hx hb dL_law_684 ?_
  refine zl_ld (n := n) (d := 3) C I.2.2.2.2.2.2.2.1.2 rfl (by decide) (by decide +kernel) hn dL_law_685 ?_
  refine zl_M (As := [.int (xs (7 * n + 1)), .int (xs (7 * n + 2)), .int (xs (7 * n + 3))]) (rest := []) C I hl.1 (cM_entry l M I.2.2.2.2.2.1 h2) zcV_RL_87 rfl rfl rfl (by decide) hcs (Nat.le_of_ble_eq_true rfl) dL_law_686 (fun H locs I => ?_)
  refine lv_pop hx hb dL_law_689 rfl ?_
  exact lv_goto (tgt := 1026) hx hb dL_law_690 (by decide) (W.widen (by omega) (by omega) (KK _ _ _ _ _ _ _ I hl h3))
set_option maxHeartbeats 4000000 in
set_option maxRecDepth 20000 in
theorem zl_c17 (C : zl_L K V fv A p s m args meth c b0 L xs) (I : zl_I A s X M bl σ τ H locs) (hl : lv_has ls 4 [(3, .int (nI (7 * n))), (2, .ref (z_ad M (100, 0, 0))), (1, .ref (z_ad X (30, 0, 0))), (0, .ref b0)]) (hn : 7 * n + 7 ≤ L) (h0 : REL bl σ τ n) (ST : zl_st_state REL) (KK : zl_K l e A s M p m args below meth c Q REL n b0) : W p l e room_1 s m args below meth c H locs (276 + 243 * zl_nb bl) (27114 + 5098 * zl_nb bl) Q (F0 m 693 ls []) := by
  have hx := C.1
  have hb := C.2.1
  have hL : L ≤ 3584 := C.2.2.2.2.2.2.2.2.2.2.2
  have hnb := zl_nb_le bl
  have hcs : 276 + 243 * zl_nb bl ≤ 600000 ∧ 27114 + 5098 * zl_nb bl ≤ 7302250 := by omega
  obtain ⟨r, ρ, π, h1, h2, h3⟩ := ST bl σ τ n (by omega) h0 (xs (7 * n + 1)) (xs (7 * n + 2))
  refine lv_aload_n hx hb dL_law_693 rfl (lv_at hl 2 rfl) ?_
  refine lv_aload_n hx hb dL_law_694 rfl (lv_at hl 3 rfl) ?_
  refine lv_iload_n hx hb dL_law_695 rfl (lv_at hl 0 rfl) ?_
  refine lv_iconst (v := 1) hx hb dL_law_696 (by decide) ?_
  refine lv_iadd hx hb dL_law_697 ?_
  refine zl_ld (n := n) (d := 1) C I.2.2.2.2.2.2.2.1.2 rfl (by decide) (by decide +kernel) hn dL_law_698 ?_
  refine lv_aload_n hx hb dL_law_699 rfl (lv_at hl 3 rfl) ?_
  refine lv_iload_n hx hb dL_law_700 rfl (lv_at hl 0 rfl) ?_
  refine lv_iconst (v := 2) hx hb dL_law_701 (by decide) ?_
  refine lv_iadd hx hb dL_law_702 ?_
  refine zl_ld (n := n) (d := 2) C I.2.2.2.2.2.2.2.1.2 rfl (by decide) (by decide +kernel) hn dL_law_703 ?_
  refine zl_X (As := [.int (xs (7 * n + 1)), .int (xs (7 * n + 2))]) (rest := []) C I hl.1 (cX_state l X I.2.2.1.1 I.2.2.1.2.1 h1) zcV_RL_88 rfl rfl rfl (by decide) hcs (Nat.le_of_ble_eq_true rfl) dL_law_704 (fun H locs I => ?_)
  refine lv_pop hx hb dL_law_707 rfl ?_
  refine lv_aload_n hx hb dL_law_708 rfl (lv_at hl 1 rfl) ?_
  refine lv_aload_n hx hb dL_law_709 rfl (lv_at hl 3 rfl) ?_
  refine lv_iload_n hx hb dL_law_710 rfl (lv_at hl 0 rfl) ?_
  refine lv_iconst (v := 1) hx hb dL_law_711 (by decide) ?_
  refine lv_iadd hx hb dL_law_712 ?_
  refine zl_ld (n := n) (d := 1) C I.2.2.2.2.2.2.2.1.2 rfl (by decide) (by decide +kernel) hn dL_law_713 ?_
  refine lv_aload_n hx hb dL_law_714 rfl (lv_at hl 3 rfl) ?_
  refine lv_iload_n hx hb dL_law_715 rfl (lv_at hl 0 rfl) ?_
  refine lv_iconst (v := 2) hx hb dL_law_716 (by decide) ?_
  refine lv_iadd hx hb dL_law_717 ?_
  refine zl_ld (n := n) (d := 2) C I.2.2.2.2.2.2.2.1.2 rfl (by decide) (by decide +kernel) hn dL_law_718 ?_
  refine zl_M (As := [.int (xs (7 * n + 1)), .int (xs (7 * n + 2))]) (rest := []) C I hl.1 (cM_state l M I.2.2.2.2.2.1 h2) zcV_RL_91 rfl rfl rfl (by decide) hcs (Nat.le_of_ble_eq_true rfl) dL_law_719 (fun H locs I => ?_)
  refine lv_pop hx hb dL_law_722 rfl ?_
  exact lv_goto (tgt := 1026) hx hb dL_law_723 (by decide) (W.widen (by omega) (by omega) (KK _ _ _ _ _ _ _ I hl h3))
set_option maxHeartbeats 4000000 in
set_option maxRecDepth 20000 in
theorem zl_c18 (C : zl_L K V fv A p s m args meth c b0 L xs) (I : zl_I A s X M bl σ τ H locs) (hl : lv_has ls 4 [(3, .int (nI (7 * n))), (2, .ref (z_ad M (100, 0, 0))), (1, .ref (z_ad X (30, 0, 0))), (0, .ref b0)]) (hn : 7 * n + 7 ≤ L) (h0 : REL bl σ τ n) (ST : zl_st_client REL) (KK : zl_K l e A s M p m args below meth c Q REL n b0) : W p l e room_1 s m args below meth c H locs (276 + 243 * zl_nb bl) (27114 + 5098 * zl_nb bl) Q (F0 m 726 ls []) := by
  have hx := C.1
  have hb := C.2.1
  have hL : L ≤ 3584 := C.2.2.2.2.2.2.2.2.2.2.2
  have hnb := zl_nb_le bl
  have hcs : 276 + 243 * zl_nb bl ≤ 600000 ∧ 27114 + 5098 * zl_nb bl ≤ 7302250 := by omega
  obtain ⟨r, ρ, π, h1, h2, h3⟩ := ST bl σ τ n (by omega) h0 (xs (7 * n + 1)) (xs (7 * n + 2)) (xs (7 * n + 3))
  refine lv_aload_n hx hb dL_law_726 rfl (lv_at hl 2 rfl) ?_
  refine lv_aload_n hx hb dL_law_727 rfl (lv_at hl 3 rfl) ?_
  refine lv_iload_n hx hb dL_law_728 rfl (lv_at hl 0 rfl) ?_
  refine lv_iconst (v := 1) hx hb dL_law_729 (by decide) ?_
  refine lv_iadd hx hb dL_law_730 ?_
  refine zl_ld (n := n) (d := 1) C I.2.2.2.2.2.2.2.1.2 rfl (by decide) (by decide +kernel) hn dL_law_731 ?_
  refine lv_aload_n hx hb dL_law_732 rfl (lv_at hl 3 rfl) ?_
  refine lv_iload_n hx hb dL_law_733 rfl (lv_at hl 0 rfl) ?_
  refine lv_iconst (v := 2) hx hb dL_law_734 (by decide) ?_
  refine lv_iadd hx hb dL_law_735 ?_
  refine zl_ld (n := n) (d := 2) C I.2.2.2.2.2.2.2.1.2 rfl (by decide) (by decide +kernel) hn dL_law_736 ?_
  refine lv_aload_n hx hb dL_law_737 rfl (lv_at hl 3 rfl) ?_
  refine lv_iload_n hx hb dL_law_738 rfl (lv_at hl 0 rfl) ?_
  refine lv_iconst (v := 3) hx hb dL_law_739 (by decide) ?_
  refine lv_iadd hx hb dL_law_740 ?_
  refine zl_ld (n := n) (d := 3) C I.2.2.2.2.2.2.2.1.2 rfl (by decide) (by decide +kernel) hn dL_law_741 ?_
  refine zl_X (As := [.int (xs (7 * n + 1)), .int (xs (7 * n + 2)), .int (xs (7 * n + 3))]) (rest := []) C I hl.1 (cX_client l X I.2.2.1.1 I.2.2.1.2.1 h1) zcV_RL_92 rfl rfl rfl (by decide) hcs (Nat.le_of_ble_eq_true rfl) dL_law_742 (fun H locs I => ?_)
  refine lv_pop hx hb dL_law_745 rfl ?_
  refine lv_aload_n hx hb dL_law_746 rfl (lv_at hl 1 rfl) ?_
  refine lv_aload_n hx hb dL_law_747 rfl (lv_at hl 3 rfl) ?_
  refine lv_iload_n hx hb dL_law_748 rfl (lv_at hl 0 rfl) ?_
  refine lv_iconst (v := 1) hx hb dL_law_749 (by decide) ?_
  refine lv_iadd hx hb dL_law_750 ?_
  refine zl_ld (n := n) (d := 1) C I.2.2.2.2.2.2.2.1.2 rfl (by decide) (by decide +kernel) hn dL_law_751 ?_
  refine lv_aload_n hx hb dL_law_752 rfl (lv_at hl 3 rfl) ?_
  refine lv_iload_n hx hb dL_law_753 rfl (lv_at hl 0 rfl) ?_
  refine lv_iconst (v := 2) hx hb dL_law_754 (by decide) ?_
  refine lv_iadd hx hb dL_law_755 ?_
  refine zl_ld (n := n) (d := 2) C I.2.2.2.2.2.2.2.1.2 rfl (by decide) (by decide +kernel) hn dL_law_756 ?_
  refine lv_aload_n hx hb dL_law_757 rfl (lv_at hl 3 rfl) ?_
  refine lv_iload_n hx hb dL_law_758 rfl (lv_at hl 0 rfl) ?_
  refine lv_iconst (v := 3) hx hb dL_law_759 (by decide) ?_
  refine lv_iadd hx hb dL_law_760 ?_
  refine zl_ld (n := n) (d := 3) C I.2.2.2.2.2.2.2.1.2 rfl (by decide) (by decide +kernel) hn dL_law_761 ?_
  refine zl_M (As := [.int (xs (7 * n + 1)), .int (xs (7 * n + 2)), .int (xs (7 * n + 3))]) (rest := []) C I hl.1 (cM_client l M I.2.2.2.2.2.1 h2) zcV_RL_95 rfl rfl rfl (by decide) hcs (Nat.le_of_ble_eq_true rfl) dL_law_762 (fun H locs I => ?_)
  refine lv_pop hx hb dL_law_765 rfl ?_
  exact lv_goto (tgt := 1026) hx hb dL_law_766 (by decide) (W.widen (by omega) (by omega) (KK _ _ _ _ _ _ _ I hl h3))
set_option maxHeartbeats 4000000 in
set_option maxRecDepth 20000 in
theorem zl_c19 (C : zl_L K V fv A p s m args meth c b0 L xs) (I : zl_I A s X M bl σ τ H locs) (hl : lv_has ls 4 [(3, .int (nI (7 * n))), (2, .ref (z_ad M (100, 0, 0))), (1, .ref (z_ad X (30, 0, 0))), (0, .ref b0)]) (hn : 7 * n + 7 ≤ L) (h0 : REL bl σ τ n) (ST : zl_st_peer REL) (KK : zl_K l e A s M p m args below meth c Q REL n b0) : W p l e room_1 s m args below meth c H locs (276 + 243 * zl_nb bl) (27114 + 5098 * zl_nb bl) Q (F0 m 769 ls []) := by
  have hx := C.1
  have hb := C.2.1
  have hL : L ≤ 3584 := C.2.2.2.2.2.2.2.2.2.2.2
  have hnb := zl_nb_le bl
  have hcs : 276 + 243 * zl_nb bl ≤ 600000 ∧ 27114 + 5098 * zl_nb bl ≤ 7302250 := by omega
  obtain ⟨r, ρ, π, h1, h2, h3⟩ := ST bl σ τ n (by omega) h0 (xs (7 * n + 1)) (xs (7 * n + 2)) (xs (7 * n + 3))
  refine lv_aload_n hx hb dL_law_769 rfl (lv_at hl 2 rfl) ?_
  refine lv_aload_n hx hb dL_law_770 rfl (lv_at hl 3 rfl) ?_
  refine lv_iload_n hx hb dL_law_771 rfl (lv_at hl 0 rfl) ?_
  refine lv_iconst (v := 1) hx hb dL_law_772 (by decide) ?_
  refine lv_iadd hx hb dL_law_773 ?_
  refine zl_ld (n := n) (d := 1) C I.2.2.2.2.2.2.2.1.2 rfl (by decide) (by decide +kernel) hn dL_law_774 ?_
  refine lv_aload_n hx hb dL_law_775 rfl (lv_at hl 3 rfl) ?_
  refine lv_iload_n hx hb dL_law_776 rfl (lv_at hl 0 rfl) ?_
  refine lv_iconst (v := 2) hx hb dL_law_777 (by decide) ?_
  refine lv_iadd hx hb dL_law_778 ?_
  refine zl_ld (n := n) (d := 2) C I.2.2.2.2.2.2.2.1.2 rfl (by decide) (by decide +kernel) hn dL_law_779 ?_
  refine lv_aload_n hx hb dL_law_780 rfl (lv_at hl 3 rfl) ?_
  refine lv_iload_n hx hb dL_law_781 rfl (lv_at hl 0 rfl) ?_
  refine lv_iconst (v := 3) hx hb dL_law_782 (by decide) ?_
  refine lv_iadd hx hb dL_law_783 ?_
  refine zl_ld (n := n) (d := 3) C I.2.2.2.2.2.2.2.1.2 rfl (by decide) (by decide +kernel) hn dL_law_784 ?_
  refine zl_X (As := [.int (xs (7 * n + 1)), .int (xs (7 * n + 2)), .int (xs (7 * n + 3))]) (rest := []) C I hl.1 (cX_peer l X I.2.2.1.1 I.2.2.1.2.1 h1) zcV_RL_96 rfl rfl rfl (by decide) hcs (Nat.le_of_ble_eq_true rfl) dL_law_785 (fun H locs I => ?_)
  refine lv_pop hx hb dL_law_788 rfl ?_
  refine lv_aload_n hx hb dL_law_789 rfl (lv_at hl 1 rfl) ?_
  refine lv_aload_n hx hb dL_law_790 rfl (lv_at hl 3 rfl) ?_
  refine lv_iload_n hx hb dL_law_791 rfl (lv_at hl 0 rfl) ?_
  refine lv_iconst (v := 1) hx hb dL_law_792 (by decide) ?_
  refine lv_iadd hx hb dL_law_793 ?_
  refine zl_ld (n := n) (d := 1) C I.2.2.2.2.2.2.2.1.2 rfl (by decide) (by decide +kernel) hn dL_law_794 ?_
  refine lv_aload_n hx hb dL_law_795 rfl (lv_at hl 3 rfl) ?_
  refine lv_iload_n hx hb dL_law_796 rfl (lv_at hl 0 rfl) ?_
  refine lv_iconst (v := 2) hx hb dL_law_797 (by decide) ?_
  refine lv_iadd hx hb dL_law_798 ?_
  refine zl_ld (n := n) (d := 2) C I.2.2.2.2.2.2.2.1.2 rfl (by decide) (by decide +kernel) hn dL_law_799 ?_
  refine lv_aload_n hx hb dL_law_800 rfl (lv_at hl 3 rfl) ?_
  refine lv_iload_n hx hb dL_law_801 rfl (lv_at hl 0 rfl) ?_
  refine lv_iconst (v := 3) hx hb dL_law_802 (by decide) ?_
  refine lv_iadd hx hb dL_law_803 ?_
  refine zl_ld (n := n) (d := 3) C I.2.2.2.2.2.2.2.1.2 rfl (by decide) (by decide +kernel) hn dL_law_804 ?_
  refine zl_M (As := [.int (xs (7 * n + 1)), .int (xs (7 * n + 2)), .int (xs (7 * n + 3))]) (rest := []) C I hl.1 (cM_peer l M I.2.2.2.2.2.1 h2) zcV_RL_99 rfl rfl rfl (by decide) hcs (Nat.le_of_ble_eq_true rfl) dL_law_805 (fun H locs I => ?_)
  refine lv_pop hx hb dL_law_808 rfl ?_
  exact lv_goto (tgt := 1026) hx hb dL_law_809 (by decide) (W.widen (by omega) (by omega) (KK _ _ _ _ _ _ _ I hl h3))
set_option maxHeartbeats 4000000 in
set_option maxRecDepth 20000 in
theorem zl_c20 (C : zl_L K V fv A p s m args meth c b0 L xs) (I : zl_I A s X M bl σ τ H locs) (hl : lv_has ls 4 [(3, .int (nI (7 * n))), (2, .ref (z_ad M (100, 0, 0))), (1, .ref (z_ad X (30, 0, 0))), (0, .ref b0)]) (hn : 7 * n + 7 ≤ L) (h0 : REL bl σ τ n) (ST : zl_st_slot REL) (KK : zl_K l e A s M p m args below meth c Q REL n b0) : W p l e room_1 s m args below meth c H locs (276 + 243 * zl_nb bl) (27114 + 5098 * zl_nb bl) Q (F0 m 812 ls []) := by
  have hx := C.1
  have hb := C.2.1
  have hL : L ≤ 3584 := C.2.2.2.2.2.2.2.2.2.2.2
  have hnb := zl_nb_le bl
  have hcs : 276 + 243 * zl_nb bl ≤ 600000 ∧ 27114 + 5098 * zl_nb bl ≤ 7302250 := by omega
  obtain ⟨r, ρ, π, h1, h2, h3⟩ := ST bl σ τ n (by omega) h0 (xs (7 * n + 1)) (xs (7 * n + 2))
  refine lv_aload_n hx hb dL_law_812 rfl (lv_at hl 2 rfl) ?_
  refine lv_aload_n hx hb dL_law_813 rfl (lv_at hl 3 rfl) ?_
  refine lv_iload_n hx hb dL_law_814 rfl (lv_at hl 0 rfl) ?_
  refine lv_iconst (v := 1) hx hb dL_law_815 (by decide) ?_
  refine lv_iadd hx hb dL_law_816 ?_
  refine zl_ld (n := n) (d := 1) C I.2.2.2.2.2.2.2.1.2 rfl (by decide) (by decide +kernel) hn dL_law_817 ?_
  refine lv_aload_n hx hb dL_law_818 rfl (lv_at hl 3 rfl) ?_
  refine lv_iload_n hx hb dL_law_819 rfl (lv_at hl 0 rfl) ?_
  refine lv_iconst (v := 2) hx hb dL_law_820 (by decide) ?_
  refine lv_iadd hx hb dL_law_821 ?_
  refine zl_ld (n := n) (d := 2) C I.2.2.2.2.2.2.2.1.2 rfl (by decide) (by decide +kernel) hn dL_law_822 ?_
  refine zl_X (As := [.int (xs (7 * n + 1)), .int (xs (7 * n + 2))]) (rest := []) C I hl.1 (cX_slot l X I.2.2.1.1 I.2.2.1.2.1 h1) zcV_RL_100 rfl rfl rfl (by decide) hcs (Nat.le_of_ble_eq_true rfl) dL_law_823 (fun H locs I => ?_)
  refine lv_pop hx hb dL_law_826 rfl ?_
  refine lv_aload_n hx hb dL_law_827 rfl (lv_at hl 1 rfl) ?_
  refine lv_aload_n hx hb dL_law_828 rfl (lv_at hl 3 rfl) ?_
  refine lv_iload_n hx hb dL_law_829 rfl (lv_at hl 0 rfl) ?_
  refine lv_iconst (v := 1) hx hb dL_law_830 (by decide) ?_
  refine lv_iadd hx hb dL_law_831 ?_
  refine zl_ld (n := n) (d := 1) C I.2.2.2.2.2.2.2.1.2 rfl (by decide) (by decide +kernel) hn dL_law_832 ?_
  refine lv_aload_n hx hb dL_law_833 rfl (lv_at hl 3 rfl) ?_
  refine lv_iload_n hx hb dL_law_834 rfl (lv_at hl 0 rfl) ?_
  refine lv_iconst (v := 2) hx hb dL_law_835 (by decide) ?_
  refine lv_iadd hx hb dL_law_836 ?_
  refine zl_ld (n := n) (d := 2) C I.2.2.2.2.2.2.2.1.2 rfl (by decide) (by decide +kernel) hn dL_law_837 ?_
  refine zl_M (As := [.int (xs (7 * n + 1)), .int (xs (7 * n + 2))]) (rest := []) C I hl.1 (cM_slot l M I.2.2.2.2.2.1 h2) zcV_RL_103 rfl rfl rfl (by decide) hcs (Nat.le_of_ble_eq_true rfl) dL_law_838 (fun H locs I => ?_)
  refine lv_pop hx hb dL_law_841 rfl ?_
  exact lv_goto (tgt := 1026) hx hb dL_law_842 (by decide) (W.widen (by omega) (by omega) (KK _ _ _ _ _ _ _ I hl h3))
set_option maxHeartbeats 4000000 in
set_option maxRecDepth 20000 in
theorem zl_c21 (C : zl_L K V fv A p s m args meth c b0 L xs) (I : zl_I A s X M bl σ τ H locs) (hl : lv_has ls 4 [(3, .int (nI (7 * n))), (2, .ref (z_ad M (100, 0, 0))), (1, .ref (z_ad X (30, 0, 0))), (0, .ref b0)]) (hn : 7 * n + 7 ≤ L) (h0 : REL bl σ τ n) (ST : zl_st_note REL) (KK : zl_K l e A s M p m args below meth c Q REL n b0) : W p l e room_1 s m args below meth c H locs (276 + 243 * zl_nb bl) (27114 + 5098 * zl_nb bl) Q (F0 m 845 ls []) := by
  have hx := C.1
  have hb := C.2.1
  have hL : L ≤ 3584 := C.2.2.2.2.2.2.2.2.2.2.2
  have hnb := zl_nb_le bl
  have hcs : 276 + 243 * zl_nb bl ≤ 600000 ∧ 27114 + 5098 * zl_nb bl ≤ 7302250 := by omega
  obtain ⟨r, ρ, π, h1, h2, h3⟩ := ST bl σ τ n (by omega) h0 (xs (7 * n + 1)) (xs (7 * n + 2)) (xs (7 * n + 3)) (xs (7 * n + 4)) (xs (7 * n + 5))
  refine lv_aload_n hx hb dL_law_845 rfl (lv_at hl 2 rfl) ?_
  refine lv_aload_n hx hb dL_law_846 rfl (lv_at hl 3 rfl) ?_
  refine lv_iload_n hx hb dL_law_847 rfl (lv_at hl 0 rfl) ?_
  refine lv_iconst (v := 1) hx hb dL_law_848 (by decide) ?_
  refine lv_iadd hx hb dL_law_849 ?_
  refine zl_ld (n := n) (d := 1) C I.2.2.2.2.2.2.2.1.2 rfl (by decide) (by decide +kernel) hn dL_law_850 ?_
  refine lv_aload_n hx hb dL_law_851 rfl (lv_at hl 3 rfl) ?_
  refine lv_iload_n hx hb dL_law_852 rfl (lv_at hl 0 rfl) ?_
  refine lv_iconst (v := 2) hx hb dL_law_853 (by decide) ?_
  refine lv_iadd hx hb dL_law_854 ?_
  refine zl_ld (n := n) (d := 2) C I.2.2.2.2.2.2.2.1.2 rfl (by decide) (by decide +kernel) hn dL_law_855 ?_
  refine lv_aload_n hx hb dL_law_856 rfl (lv_at hl 3 rfl) ?_
  refine lv_iload_n hx hb dL_law_857 rfl (lv_at hl 0 rfl) ?_
  refine lv_iconst (v := 3) hx hb dL_law_858 (by decide) ?_
  refine lv_iadd hx hb dL_law_859 ?_
  refine zl_ld (n := n) (d := 3) C I.2.2.2.2.2.2.2.1.2 rfl (by decide) (by decide +kernel) hn dL_law_860 ?_
  refine lv_aload_n hx hb dL_law_861 rfl (lv_at hl 3 rfl) ?_
  refine lv_iload_n hx hb dL_law_862 rfl (lv_at hl 0 rfl) ?_
  refine lv_iconst (v := 4) hx hb dL_law_863 (by decide) ?_
  refine lv_iadd hx hb dL_law_864 ?_
  refine zl_ld (n := n) (d := 4) C I.2.2.2.2.2.2.2.1.2 rfl (by decide) (by decide +kernel) hn dL_law_865 ?_
  refine lv_aload_n hx hb dL_law_866 rfl (lv_at hl 3 rfl) ?_
  refine lv_iload_n hx hb dL_law_867 rfl (lv_at hl 0 rfl) ?_
  refine lv_iconst (v := 5) hx hb dL_law_868 (by decide) ?_
  refine lv_iadd hx hb dL_law_869 ?_
  refine zl_ld (n := n) (d := 5) C I.2.2.2.2.2.2.2.1.2 rfl (by decide) (by decide +kernel) hn dL_law_870 ?_
  refine zl_X (As := [.int (xs (7 * n + 1)), .int (xs (7 * n + 2)), .int (xs (7 * n + 3)), .int (xs (7 * n + 4)), .int (xs (7 * n + 5))]) (rest := []) C I hl.1 (cX_note l X I.2.2.1.1 I.2.2.1.2.1 h1) zcV_RL_104 rfl rfl rfl (by decide) hcs (Nat.le_of_ble_eq_true rfl) dL_law_871 (fun H locs I => ?_)
  refine lv_pop hx hb dL_law_874 rfl ?_
  refine lv_aload_n hx hb dL_law_875 rfl (lv_at hl 1 rfl) ?_
  refine lv_aload_n hx hb dL_law_876 rfl (lv_at hl 3 rfl) ?_
  refine lv_iload_n hx hb dL_law_877 rfl (lv_at hl 0 rfl) ?_
  refine lv_iconst (v := 1) hx hb dL_law_878 (by decide) ?_
  refine lv_iadd hx hb dL_law_879 ?_
  refine zl_ld (n := n) (d := 1) C I.2.2.2.2.2.2.2.1.2 rfl (by decide) (by decide +kernel) hn dL_law_880 ?_
  refine lv_aload_n hx hb dL_law_881 rfl (lv_at hl 3 rfl) ?_
  refine lv_iload_n hx hb dL_law_882 rfl (lv_at hl 0 rfl) ?_
  refine lv_iconst (v := 2) hx hb dL_law_883 (by decide) ?_
  refine lv_iadd hx hb dL_law_884 ?_
  refine zl_ld (n := n) (d := 2) C I.2.2.2.2.2.2.2.1.2 rfl (by decide) (by decide +kernel) hn dL_law_885 ?_
  refine lv_aload_n hx hb dL_law_886 rfl (lv_at hl 3 rfl) ?_
  refine lv_iload_n hx hb dL_law_887 rfl (lv_at hl 0 rfl) ?_
  refine lv_iconst (v := 3) hx hb dL_law_888 (by decide) ?_
  refine lv_iadd hx hb dL_law_889 ?_
  refine zl_ld (n := n) (d := 3) C I.2.2.2.2.2.2.2.1.2 rfl (by decide) (by decide +kernel) hn dL_law_890 ?_
  refine lv_aload_n hx hb dL_law_891 rfl (lv_at hl 3 rfl) ?_
  refine lv_iload_n hx hb dL_law_892 rfl (lv_at hl 0 rfl) ?_
  refine lv_iconst (v := 4) hx hb dL_law_893 (by decide) ?_
  refine lv_iadd hx hb dL_law_894 ?_
  refine zl_ld (n := n) (d := 4) C I.2.2.2.2.2.2.2.1.2 rfl (by decide) (by decide +kernel) hn dL_law_895 ?_
  refine lv_aload_n hx hb dL_law_896 rfl (lv_at hl 3 rfl) ?_
  refine lv_iload_n hx hb dL_law_897 rfl (lv_at hl 0 rfl) ?_
  refine lv_iconst (v := 5) hx hb dL_law_898 (by decide) ?_
  refine lv_iadd hx hb dL_law_899 ?_
  refine zl_ld (n := n) (d := 5) C I.2.2.2.2.2.2.2.1.2 rfl (by decide) (by decide +kernel) hn dL_law_900 ?_
  refine zl_M (As := [.int (xs (7 * n + 1)), .int (xs (7 * n + 2)), .int (xs (7 * n + 3)), .int (xs (7 * n + 4)), .int (xs (7 * n + 5))]) (rest := []) C I hl.1 (cM_note l M I.2.2.2.2.2.1 h2) zcV_RL_107 rfl rfl rfl (by decide) hcs (Nat.le_of_ble_eq_true rfl) dL_law_901 (fun H locs I => ?_)
  refine lv_pop hx hb dL_law_904 rfl ?_
  exact lv_goto (tgt := 1026) hx hb dL_law_905 (by decide) (W.widen (by omega) (by omega) (KK _ _ _ _ _ _ _ I hl h3))
set_option maxHeartbeats 4000000 in
set_option maxRecDepth 20000 in
theorem zl_c22 (C : zl_L K V fv A p s m args meth c b0 L xs) (I : zl_I A s X M bl σ τ H locs) (hl : lv_has ls 4 [(3, .int (nI (7 * n))), (2, .ref (z_ad M (100, 0, 0))), (1, .ref (z_ad X (30, 0, 0))), (0, .ref b0)]) (hn : 7 * n + 7 ≤ L) (h0 : REL bl σ τ n) (ST : zl_st_hush REL) (KK : zl_K l e A s M p m args below meth c Q REL n b0) : W p l e room_1 s m args below meth c H locs (276 + 243 * zl_nb bl) (27114 + 5098 * zl_nb bl) Q (F0 m 908 ls []) := by
  have hx := C.1
  have hb := C.2.1
  have hL : L ≤ 3584 := C.2.2.2.2.2.2.2.2.2.2.2
  have hnb := zl_nb_le bl
  have hcs : 276 + 243 * zl_nb bl ≤ 600000 ∧ 27114 + 5098 * zl_nb bl ≤ 7302250 := by omega
  obtain ⟨r, ρ, π, h1, h2, h3⟩ := ST bl σ τ n (by omega) h0
  refine lv_aload_n hx hb dL_law_908 rfl (lv_at hl 2 rfl) ?_
  refine zl_X (As := []) (rest := []) C I hl.1 (cX_hush l X I.2.2.1.1 I.2.2.1.2.1 h1) zcV_RL_108 rfl rfl rfl (by decide) hcs (Nat.le_of_ble_eq_true rfl) dL_law_909 (fun H locs I => ?_)
  refine lv_pop hx hb dL_law_912 rfl ?_
  refine lv_aload_n hx hb dL_law_913 rfl (lv_at hl 1 rfl) ?_
  refine zl_M (As := []) (rest := []) C I hl.1 (cM_hush l M I.2.2.2.2.2.1 h2) zcV_RL_111 rfl rfl rfl (by decide) hcs (Nat.le_of_ble_eq_true rfl) dL_law_914 (fun H locs I => ?_)
  refine lv_pop hx hb dL_law_917 rfl ?_
  exact lv_goto (tgt := 1026) hx hb dL_law_918 (by decide) (W.widen (by omega) (by omega) (KK _ _ _ _ _ _ _ I hl h3))
set_option maxHeartbeats 4000000 in
set_option maxRecDepth 20000 in
theorem zl_c23 (C : zl_L K V fv A p s m args meth c b0 L xs) (I : zl_I A s X M bl σ τ H locs) (hl : lv_has ls 4 [(3, .int (nI (7 * n))), (2, .ref (z_ad M (100, 0, 0))), (1, .ref (z_ad X (30, 0, 0))), (0, .ref b0)]) (hn : 7 * n + 7 ≤ L) (h0 : REL bl σ τ n) (ST : zl_st_judge REL) (KK : zl_K l e A s M p m args below meth c Q REL n b0) : W p l e room_1 s m args below meth c H locs (276 + 243 * zl_nb bl) (27114 + 5098 * zl_nb bl) Q (F0 m 921 ls []) := by
  have hx := C.1
  have hb := C.2.1
  have hL : L ≤ 3584 := C.2.2.2.2.2.2.2.2.2.2.2
  have hnb := zl_nb_le bl
  have hcs : 276 + 243 * zl_nb bl ≤ 600000 ∧ 27114 + 5098 * zl_nb bl ≤ 7302250 := by omega
  obtain ⟨r, ρ, π, h1, h2, h3⟩ := ST bl σ τ n (by omega) h0
  refine lv_aload_n hx hb dL_law_921 rfl (lv_at hl 2 rfl) ?_
  refine zl_X (As := []) (rest := []) C I hl.1 (cX_judge l X I.2.2.1.1 I.2.2.1.2.1 h1) zcV_RL_112 rfl rfl rfl (by decide) hcs (Nat.le_of_ble_eq_true rfl) dL_law_922 (fun H locs I => ?_)
  refine lv_pop hx hb dL_law_925 rfl ?_
  refine lv_aload_n hx hb dL_law_926 rfl (lv_at hl 1 rfl) ?_
  refine zl_M (As := []) (rest := []) C I hl.1 (cM_judge l M I.2.2.2.2.2.1 h2) zcV_RL_115 rfl rfl rfl (by decide) hcs (Nat.le_of_ble_eq_true rfl) dL_law_927 (fun H locs I => ?_)
  refine lv_pop hx hb dL_law_930 rfl ?_
  exact lv_goto (tgt := 1026) hx hb dL_law_931 (by decide) (W.widen (by omega) (by omega) (KK _ _ _ _ _ _ _ I hl h3))
set_option maxHeartbeats 4000000 in
set_option maxRecDepth 20000 in
theorem zl_c24 (C : zl_L K V fv A p s m args meth c b0 L xs) (I : zl_I A s X M bl σ τ H locs) (hl : lv_has ls 4 [(3, .int (nI (7 * n))), (2, .ref (z_ad M (100, 0, 0))), (1, .ref (z_ad X (30, 0, 0))), (0, .ref b0)]) (hn : 7 * n + 7 ≤ L) (h0 : REL bl σ τ n) (ST : zl_st_order REL) (KK : zl_K l e A s M p m args below meth c Q REL n b0) : W p l e room_1 s m args below meth c H locs (276 + 243 * zl_nb bl) (27114 + 5098 * zl_nb bl) Q (F0 m 934 ls []) := by
  have hx := C.1
  have hb := C.2.1
  have hL : L ≤ 3584 := C.2.2.2.2.2.2.2.2.2.2.2
  have hnb := zl_nb_le bl
  have hcs : 276 + 243 * zl_nb bl ≤ 600000 ∧ 27114 + 5098 * zl_nb bl ≤ 7302250 := by omega
  obtain ⟨r, ρ, π, h1, h2, h3⟩ := ST bl σ τ n (by omega) h0 (xs (7 * n + 1))
  refine lv_aload_n hx hb dL_law_934 rfl (lv_at hl 2 rfl) ?_
  refine lv_aload_n hx hb dL_law_935 rfl (lv_at hl 3 rfl) ?_
  refine lv_iload_n hx hb dL_law_936 rfl (lv_at hl 0 rfl) ?_
  refine lv_iconst (v := 1) hx hb dL_law_937 (by decide) ?_
  refine lv_iadd hx hb dL_law_938 ?_
  refine zl_ld (n := n) (d := 1) C I.2.2.2.2.2.2.2.1.2 rfl (by decide) (by decide +kernel) hn dL_law_939 ?_
  refine zl_X (As := [.int (xs (7 * n + 1))]) (rest := []) C I hl.1 (cX_order l X I.2.2.1.1 I.2.2.1.2.1 h1) zcV_RL_116 rfl rfl rfl (by decide) hcs (Nat.le_of_ble_eq_true rfl) dL_law_940 (fun H locs I => ?_)
  refine lv_pop hx hb dL_law_943 rfl ?_
  refine lv_aload_n hx hb dL_law_944 rfl (lv_at hl 1 rfl) ?_
  refine lv_aload_n hx hb dL_law_945 rfl (lv_at hl 3 rfl) ?_
  refine lv_iload_n hx hb dL_law_946 rfl (lv_at hl 0 rfl) ?_
  refine lv_iconst (v := 1) hx hb dL_law_947 (by decide) ?_
  refine lv_iadd hx hb dL_law_948 ?_
  refine zl_ld (n := n) (d := 1) C I.2.2.2.2.2.2.2.1.2 rfl (by decide) (by decide +kernel) hn dL_law_949 ?_
  refine zl_M (As := [.int (xs (7 * n + 1))]) (rest := []) C I hl.1 (cM_order l M I.2.2.2.2.2.1 h2) zcV_RL_119 rfl rfl rfl (by decide) hcs (Nat.le_of_ble_eq_true rfl) dL_law_950 (fun H locs I => ?_)
  refine lv_pop hx hb dL_law_953 rfl ?_
  exact lv_goto (tgt := 1026) hx hb dL_law_954 (by decide) (W.widen (by omega) (by omega) (KK _ _ _ _ _ _ _ I hl h3))
set_option maxHeartbeats 4000000 in
set_option maxRecDepth 20000 in
theorem zl_c25 (C : zl_L K V fv A p s m args meth c b0 L xs) (I : zl_I A s X M bl σ τ H locs) (hl : lv_has ls 4 [(3, .int (nI (7 * n))), (2, .ref (z_ad M (100, 0, 0))), (1, .ref (z_ad X (30, 0, 0))), (0, .ref b0)]) (hn : 7 * n + 7 ≤ L) (h0 : REL bl σ τ n) (ST : zl_st_image REL) (KK : zl_K l e A s M p m args below meth c Q REL n b0) : W p l e room_1 s m args below meth c H locs (276 + 243 * zl_nb bl) (27114 + 5098 * zl_nb bl) Q (F0 m 957 ls []) := by
  have hx := C.1
  have hb := C.2.1
  have hL : L ≤ 3584 := C.2.2.2.2.2.2.2.2.2.2.2
  have hnb := zl_nb_le bl
  have hcs : 276 + 243 * zl_nb bl ≤ 600000 ∧ 27114 + 5098 * zl_nb bl ≤ 7302250 := by omega
  rcases ST bl σ τ n (by omega) h0 (xs (7 * n + 1)) with ⟨r, ρ, π, h1, h2, h3⟩ | ⟨r, r1, ρ, π, g1, g2, g3, g4, h1, h2, h3⟩
  · refine lv_aload_n hx hb dL_law_957 rfl (lv_at hl 2 rfl) ?_
    refine lv_aload_n hx hb dL_law_958 rfl (lv_at hl 3 rfl) ?_
    refine lv_iload_n hx hb dL_law_959 rfl (lv_at hl 0 rfl) ?_
    refine lv_iconst (v := 1) hx hb dL_law_960 (by decide) ?_
    refine lv_iadd hx hb dL_law_961 ?_
    refine zl_ld (n := n) (d := 1) C I.2.2.2.2.2.2.2.1.2 rfl (by decide) (by decide +kernel) hn dL_law_962 ?_
    refine zl_X (As := [.int (xs (7 * n + 1))]) (rest := []) C I hl.1 (cX_image l X I.2.2.1.1 I.2.2.1.2.1 I.2.2.1.2.2.1 h1) zcV_RL_120 rfl rfl rfl (by decide) hcs (Nat.le_of_ble_eq_true rfl) dL_law_963 (fun H locs I => ?_)
    refine lv_pop hx hb dL_law_966 rfl ?_
    refine lv_aload_n hx hb dL_law_967 rfl (lv_at hl 1 rfl) ?_
    refine lv_aload_n hx hb dL_law_968 rfl (lv_at hl 3 rfl) ?_
    refine lv_iload_n hx hb dL_law_969 rfl (lv_at hl 0 rfl) ?_
    refine lv_iconst (v := 1) hx hb dL_law_970 (by decide) ?_
    refine lv_iadd hx hb dL_law_971 ?_
    refine zl_ld (n := n) (d := 1) C I.2.2.2.2.2.2.2.1.2 rfl (by decide) (by decide +kernel) hn dL_law_972 ?_
    refine zl_M (As := [.int (xs (7 * n + 1))]) (rest := []) C I hl.1 (cM_image l M I.2.2.2.2.2.1 h2) zcV_RL_123 rfl rfl rfl (by decide) hcs (Nat.le_of_ble_eq_true rfl) dL_law_973 (fun H locs I => ?_)
    refine lv_pop hx hb dL_law_976 rfl ?_
    exact lv_goto (tgt := 1026) hx hb dL_law_977 (by decide) (W.widen (by omega) (by omega) (KK _ _ _ _ _ _ _ I hl h3))
  · refine lv_aload_n hx hb dL_law_957 rfl (lv_at hl 2 rfl) ?_
    refine lv_aload_n hx hb dL_law_958 rfl (lv_at hl 3 rfl) ?_
    refine lv_iload_n hx hb dL_law_959 rfl (lv_at hl 0 rfl) ?_
    refine lv_iconst (v := 1) hx hb dL_law_960 (by decide) ?_
    refine lv_iadd hx hb dL_law_961 ?_
    refine zl_ld (n := n) (d := 1) C I.2.2.2.2.2.2.2.1.2 rfl (by decide) (by decide +kernel) hn dL_law_962 ?_
    refine zl_N C I hl.1 (cX_imageN l X I.2.2.1.1 I.2.2.1.2.1 I.2.2.1.2.2.1 (I.2.2.1.2.2.2 _ (z_in_lt g3) g4) g1 g2 g3 g4 h1) g3 g4 (by omega) (by omega) dL_law_963 (fun f H locs I => ?_)
    have hnb1 := zl_nb_1 (z_in_lt g3) g4
    refine lv_pop hx hb dL_law_966 rfl ?_
    refine lv_aload_n hx hb dL_law_967 rfl (lv_at hl 1 rfl) ?_
    refine lv_aload_n hx hb dL_law_968 rfl (lv_at hl 3 rfl) ?_
    refine lv_iload_n hx hb dL_law_969 rfl (lv_at hl 0 rfl) ?_
    refine lv_iconst (v := 1) hx hb dL_law_970 (by decide) ?_
    refine lv_iadd hx hb dL_law_971 ?_
    refine zl_ld (n := n) (d := 1) C I.2.2.2.2.2.2.2.1.2 rfl (by decide) (by decide +kernel) hn dL_law_972 ?_
    refine zl_M (As := [.int (xs (7 * n + 1))]) (rest := []) C I hl.1 (cM_image l M I.2.2.2.2.2.1 h2) zcV_RL_123 rfl rfl rfl (by decide) (by omega) (Nat.le_of_ble_eq_true rfl) dL_law_973 (fun H locs I => ?_)
    refine lv_pop hx hb dL_law_976 rfl ?_
    exact lv_goto (tgt := 1026) hx hb dL_law_977 (by decide) (W.widen (by omega) (by omega) (KK _ _ _ _ _ _ _ I hl h3))
set_option maxHeartbeats 4000000 in
set_option maxRecDepth 20000 in
theorem zl_c26 (C : zl_L K V fv A p s m args meth c b0 L xs) (I : zl_I A s X M bl σ τ H locs) (hl : lv_has ls 4 [(3, .int (nI (7 * n))), (2, .ref (z_ad M (100, 0, 0))), (1, .ref (z_ad X (30, 0, 0))), (0, .ref b0)]) (hn : 7 * n + 7 ≤ L) (h0 : REL bl σ τ n) (ST : zl_st_back REL) (KK : zl_K l e A s M p m args below meth c Q REL n b0) : W p l e room_1 s m args below meth c H locs (276 + 243 * zl_nb bl) (27114 + 5098 * zl_nb bl) Q (F0 m 980 ls []) := by
  have hx := C.1
  have hb := C.2.1
  have hL : L ≤ 3584 := C.2.2.2.2.2.2.2.2.2.2.2
  have hnb := zl_nb_le bl
  have hcs : 276 + 243 * zl_nb bl ≤ 600000 ∧ 27114 + 5098 * zl_nb bl ≤ 7302250 := by omega
  obtain ⟨r, ρ, π, h1, h2, h3⟩ := ST bl σ τ n (by omega) h0 (xs (7 * n + 1))
  refine lv_aload_n hx hb dL_law_980 rfl (lv_at hl 2 rfl) ?_
  refine lv_aload_n hx hb dL_law_981 rfl (lv_at hl 3 rfl) ?_
  refine lv_iload_n hx hb dL_law_982 rfl (lv_at hl 0 rfl) ?_
  refine lv_iconst (v := 1) hx hb dL_law_983 (by decide) ?_
  refine lv_iadd hx hb dL_law_984 ?_
  refine zl_ld (n := n) (d := 1) C I.2.2.2.2.2.2.2.1.2 rfl (by decide) (by decide +kernel) hn dL_law_985 ?_
  refine zl_X (As := [.int (xs (7 * n + 1))]) (rest := []) C I hl.1 (cX_back l X I.2.2.1.1 I.2.2.1.2.1 I.2.2.1.2.2.1 h1) zcV_RL_124 rfl rfl rfl (by decide) hcs (Nat.le_of_ble_eq_true rfl) dL_law_986 (fun H locs I => ?_)
  refine lv_pop hx hb dL_law_989 rfl ?_
  refine lv_aload_n hx hb dL_law_990 rfl (lv_at hl 1 rfl) ?_
  refine lv_aload_n hx hb dL_law_991 rfl (lv_at hl 3 rfl) ?_
  refine lv_iload_n hx hb dL_law_992 rfl (lv_at hl 0 rfl) ?_
  refine lv_iconst (v := 1) hx hb dL_law_993 (by decide) ?_
  refine lv_iadd hx hb dL_law_994 ?_
  refine zl_ld (n := n) (d := 1) C I.2.2.2.2.2.2.2.1.2 rfl (by decide) (by decide +kernel) hn dL_law_995 ?_
  refine zl_M (As := [.int (xs (7 * n + 1))]) (rest := []) C I hl.1 (cM_back l M I.2.2.2.2.2.1 h2) zcV_RL_127 rfl rfl rfl (by decide) hcs (Nat.le_of_ble_eq_true rfl) dL_law_996 (fun H locs I => ?_)
  refine lv_pop hx hb dL_law_999 rfl ?_
  exact lv_goto (tgt := 1026) hx hb dL_law_1000 (by decide) (W.widen (by omega) (by omega) (KK _ _ _ _ _ _ _ I hl h3))
set_option maxHeartbeats 4000000 in
set_option maxRecDepth 20000 in
theorem zl_c27 (C : zl_L K V fv A p s m args meth c b0 L xs) (I : zl_I A s X M bl σ τ H locs) (hl : lv_has ls 4 [(3, .int (nI (7 * n))), (2, .ref (z_ad M (100, 0, 0))), (1, .ref (z_ad X (30, 0, 0))), (0, .ref b0)]) (hn : 7 * n + 7 ≤ L) (h0 : REL bl σ τ n) (ST : zl_st_about REL) (KK : zl_K l e A s M p m args below meth c Q REL n b0) : W p l e room_1 s m args below meth c H locs (276 + 243 * zl_nb bl) (27114 + 5098 * zl_nb bl) Q (F0 m 1003 ls []) := by
  have hx := C.1
  have hb := C.2.1
  have hL : L ≤ 3584 := C.2.2.2.2.2.2.2.2.2.2.2
  have hnb := zl_nb_le bl
  have hcs : 276 + 243 * zl_nb bl ≤ 600000 ∧ 27114 + 5098 * zl_nb bl ≤ 7302250 := by omega
  obtain ⟨r, ρ, π, h1, h2, h3⟩ := ST bl σ τ n (by omega) h0 (xs (7 * n + 1))
  refine lv_aload_n hx hb dL_law_1003 rfl (lv_at hl 2 rfl) ?_
  refine lv_aload_n hx hb dL_law_1004 rfl (lv_at hl 3 rfl) ?_
  refine lv_iload_n hx hb dL_law_1005 rfl (lv_at hl 0 rfl) ?_
  refine lv_iconst (v := 1) hx hb dL_law_1006 (by decide) ?_
  refine lv_iadd hx hb dL_law_1007 ?_
  refine zl_ld (n := n) (d := 1) C I.2.2.2.2.2.2.2.1.2 rfl (by decide) (by decide +kernel) hn dL_law_1008 ?_
  refine zl_X (As := [.int (xs (7 * n + 1))]) (rest := []) C I hl.1 (cX_about l X I.2.2.1.1 I.2.2.1.2.1 h1) zcV_RL_128 rfl rfl rfl (by decide) hcs (Nat.le_of_ble_eq_true rfl) dL_law_1009 (fun H locs I => ?_)
  refine lv_aload_n hx hb dL_law_1012 rfl (lv_at hl 1 rfl) ?_
  refine lv_aload_n hx hb dL_law_1013 rfl (lv_at hl 3 rfl) ?_
  refine lv_iload_n hx hb dL_law_1014 rfl (lv_at hl 0 rfl) ?_
  refine lv_iconst (v := 1) hx hb dL_law_1015 (by decide) ?_
  refine lv_iadd hx hb dL_law_1016 ?_
  refine zl_ld (n := n) (d := 1) C I.2.2.2.2.2.2.2.1.2 rfl (by decide) (by decide +kernel) hn dL_law_1017 ?_
  refine zl_M (As := [.int (xs (7 * n + 1))]) (rest := [.int r]) C I hl.1 (cM_about l M I.2.2.2.2.2.1 h2) zcV_RL_131 rfl rfl rfl (by decide) hcs (Nat.le_of_ble_eq_true rfl) dL_law_1018 (fun H locs I => ?_)
  exact lv_icmp_eq (tgt := 1026) hx hb dL_law_1021 (by decide) (fun _ => W.widen (by omega) (by omega) (KK _ _ _ _ _ _ _ I hl h3)) (fun hc => absurd rfl hc)
end zl_cases
