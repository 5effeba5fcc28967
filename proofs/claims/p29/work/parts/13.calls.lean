/-! contracts over the flat picture, and calls by them -/
def z_let {α β : Type} (v : α) (f : α → β) : β := f v
theorem z_lte {α β : Type} {v x : α} {f : α → β} {o : β} (h : x = v) (hf : z_let v f = o) : f x = o := by subst h; exact hf
theorem z_top {E : zE} {A : Nat → Prop} {s : State} {v : zS} {H : Heap} {locs : List Loc} {β : Type} {f : zS → β} {o : β} (hs : z_H E A s v H locs) (hf : z_let v f = o) : ∃ x, x = v ∧ z_H E A s x H locs ∧ f x = o := ⟨v, rfl, hs, hf⟩
abbrev z_QI (E : zE) (ro : Int32) (σo : zS) (A : Nat → Prop) : Array Value → State → Outcome → State → Prop := va_Qi (S := Unit) (fun r _ => r = ro) (fun _ t => va_P E.1 z_cl (z_ws E σo) t.heap) A
abbrev z_QV (E : zE) (_ : Unit) (σo : zS) (A : Nat → Prop) : Array Value → State → Outcome → State → Prop := va_Qv (S := Unit) (fun _ => True) (fun _ t => va_P E.1 z_cl (z_ws E σo) t.heap) A
abbrev z_QQ (E : zE) (ro : Option zJ) (σo : zS) (A : Nat → Prop) : Array Value → State → Outcome → State → Prop := va_Qq (S := Unit) (fun r _ => r = ro.map (z_ad E)) (fun _ t => va_P E.1 z_cl (z_ws E σo) t.heap) A
/-- a method's contract: from any heap that holds the state σ, with these arguments, it ends as Q says -/
def z_T (l : Launch) (E : zE) (y : MethodName) (b : ByteArray) (n : Nat) (ret : Option FieldType) (rm : Room) (Q : (Nat → Prop) → Array Value → State → Outcome → State → Prop) (av : List Value) (σ : zS) : Prop :=
  ∀ sz : Nat, Met l y (.code y b n ret :: z_wl) rm (va_Pc av (fun U => U.heap.size = sz ∧ va_P E.1 z_cl (z_ws E σ) U.heap ∧ z_K E U ∧ va_D (fun _ => True) (z_ws E σ))) (Q (z_A E sz)) 0 0 (z_A E sz)
theorem z_enter {l : Launch} {E : zE} {y : MethodName} {b : ByteArray} {n : Nat} {ret : Option FieldType} {rm : Room} {Q : (Nat → Prop) → Array Value → State → Outcome → State → Prop} {av : List Value} {σ : zS} {lv : List (Nat × Value)} (hy : plainName y.cls = true) (hlen : (lg_sl av).length ≤ n) (hlv : lv_args 0 av = lv)
    (body : ∀ (p : Program) (e : Env) (s : State) (m : MethodId) (below : List Frame) (meth : Method) (c : Code) (A : Nat → Prop) (ls : Array Slot), z_C E y.cls b n A p s m av.toArray meth c → meth.sig.returnType = ret → z_H E A s σ s.heap [] → lv_has ls n lv → W p l e rm s m av.toArray below meth c s.heap [] 0 0 (MQ below (Q A) av.toArray s 0 0 A) (F0 m 0 ls [])) : z_T l E y b n ret rm Q av σ := by
  intro sz
  refine Met.ofW (cc := b) (maxL := n) (ret := ret) hy rfl ?_
  intro p e s m args below meth c s₁ B hml hv
  obtain ⟨rfl, hsz, hP, hK, hD0⟩ := hv
  have hts := atoms_spec (ws := .code y b n ret :: z_wl) B.pre
  have hown : s.vm.findClass y.cls = some m.cls := findClass_of_methodNamed B.named
  subst hsz
  have hl := lv_entry av (n := n) hlen
  rw [lg_entry_eq]
  rw [hlv] at hl
  exact body p e s m below meth c (z_A E s.heap.size) _ ⟨B.exec, B.bytes, hml, hown, fun w hw => hts w (List.mem_cons_of_mem _ hw), hK, fun τ => z_D_A (z_Dall hD0 τ) _, fun q h => Or.inr h, B.notSynchronized⟩ B.returns ⟨hP, va_S.rf⟩ hl
/-- the words of a call -/
def z_CV (own : String) (index : Nat) (y : MethodName) (b : ByteArray) (n : Nat) (ret : Option FieldType) (k : Nat) : Prop :=
  (Cond.methodLink own index y ∈ z_wl ∧ Cond.instanceMethod y ∈ z_wl ∧ Cond.selects y.cls y y ∈ z_wl ∧ Cond.initialized y.cls ∈ z_wl ∧ Cond.code y b n ret ∈ z_wl) ∧ (y.cls ≠ "java/lang/invoke/MethodHandle" ∧ y.cls ≠ "java/lang/invoke/VarHandle" ∧ (parseMethodDescriptor y.desc).map (fun d => d.parameters.length) = some k) ∧ n ≤ 40
def z_CS (own : String) (index : Nat) (y : MethodName) (b : ByteArray) (n : Nat) (ret : Option FieldType) (k : Nat) : Prop :=
  (Cond.methodLink own index y ∈ z_wl ∧ Cond.static y ∈ z_wl ∧ Cond.initialized y.cls ∈ z_wl ∧ Cond.code y b n ret ∈ z_wl) ∧ (y.cls ≠ "java/lang/invoke/MethodHandle" ∧ y.cls ≠ "java/lang/invoke/VarHandle" ∧ (parseMethodDescriptor y.desc).map (fun d => d.parameters.length) = some k) ∧ n ≤ 40
/-- a nest mate's static method -/
def z_CN (own : String) (index : Nat) (y : MethodName) (host : String) (b : ByteArray) (n : Nat) (ret : Option FieldType) (k : Nat) : Prop :=
  (Cond.methodLinkNest own index y host ∈ z_nl ∧ Cond.static y ∈ z_wl ∧ Cond.initialized y.cls ∈ z_wl ∧ Cond.code y b n ret ∈ z_wl) ∧ (y.cls ≠ "java/lang/invoke/MethodHandle" ∧ y.cls ≠ "java/lang/invoke/VarHandle" ∧ (parseMethodDescriptor y.desc).map (fun d => d.parameters.length) = some k) ∧ n ≤ 40
theorem z_K.moved {E : zE} {s U : State} (hW : s.WarmedH U.vm) (h : z_K E s) : z_K E U := ⟨va_K.moved hW.alike h.1, fun w hw => by
  have h1 := h.2 w hw
  have h2 : ∃ a i x ho, w = Cond.methodLinkNest a i x ho := by
    have := hw
    simp only [z_nl, List.mem_cons, List.not_mem_nil, or_false] at this
    rcases this with h | h | h | h | h | h | h | h | h | h | h | h | h <;> exact ⟨_, _, _, _, h⟩
  obtain ⟨a, i, x, ho, rfl⟩ := h2
  exact va_Nw.warmM hW h1⟩
theorem z_nlT {w : Cond} (hw : w ∈ z_nl) : w.onTables = true := by
  simp only [z_nl, List.mem_cons, List.not_mem_nil, or_false] at hw
  rcases hw with rfl | rfl | rfl | rfl | rfl | rfl | rfl | rfl | rfl | rfl | rfl | rfl | rfl <;> rfl
theorem z_blind {E : zE} {av : List Value} {sz : Nat} {σ : zS} : FrameBlind (va_Pc av (fun U => U.heap.size = sz ∧ va_P E.1 z_cl (z_ws E σ) U.heap ∧ z_K E U ∧ va_D (fun _ => True) (z_ws E σ))) := fun a U g mk q => by
  obtain ⟨q0, q1, qP, qK, qD⟩ := q
  exact ⟨q0, q1, qP, ⟨va_K.moved (u := U) (U := U.calling g mk a) (Vm.Alike.refl U.vm) qK.1, fun w hw => va_tabs (u := U) (U := U.calling g mk a) (z_nlT hw) rfl (qK.2 w hw)⟩, qD⟩
section z_callrows
variable {p : Program} {l : Launch} {e : Env} {s : State} {m : MethodId} {args : Array Value} {below : List Frame} {meth : Method} {c : Code} {H : Heap} {locs : List Loc} {Q : State → Prop}
variable {cc : ByteArray} {pc nL lev j : Nat} {ls : Array Slot} {rest st : List Value} {E : zE} {σ τ : zS} {A : Nat → Prop} {own : String} {y : MethodName} {b : ByteArray} {n : Nat} {ret : Option FieldType}
theorem z_freeA (C : z_C E own cc nL A p s m args meth c) (hs : z_H E A s σ H locs) : ∀ q, z_A E H.size q → A q := by
  obtain ⟨hex, hb, hml, hown, hts, hK, hD, hA, -⟩ := C
  rintro q (⟨a, ha, rfl⟩ | h)
  · obtain ⟨k, -, he⟩ := z_at σ ha
    exact (hD σ).2 k _ he
  · exact hA q (Nat.le_trans hs.2.1 h)
theorem z_wsin {ws : List Cond} (hc : Cond.code y b n ret ∈ z_wl) (h : ∀ w ∈ ws, w ∈ z_wl) : ∀ w ∈ ws ++ (Cond.code y b n ret :: z_wl), w ∈ z_wl := by
  intro w hw
  rcases List.mem_append.mp hw with h1 | h1
  · exact h w h1
  · rcases List.mem_cons.mp h1 with rfl | h2
    · exact hc
    · exact h2
theorem z_preS (C : z_C E own cc nL A p s m args meth c) (hs : z_H E A s σ H locs) (av : List Value) : PreS s H (va_Pc av (fun U => U.heap.size = H.size ∧ va_P E.1 z_cl (z_ws E σ) U.heap ∧ z_K E U ∧ va_D (fun _ => True) (z_ws E σ))) av := by
  obtain ⟨hex, hb, hml, hown, hts, hK, hD, hA, -⟩ := C
  refine ⟨z_blind, fun U hU hW => ⟨rfl, by rw [hU], by rw [hU]; exact hs.1, hK.moved hW, (hD σ).weaken (fun _ _ _ _ => trivial)⟩⟩
theorem z_runV {Qx : (Nat → Prop) → Array Value → State → Outcome → State → Prop} {As : List Value} {a : zJ} {ci N index k : Nat} {T : u_T} {fs : List Value} (C : z_C E own cc nL A p s m args meth c) (hs : z_H E A s σ H locs) (hls : ls.size = nL) (hM : z_T l E y b n ret (z_rm j) Qx (.ref (z_ad E a) :: As) σ) (cv : z_CV own index y b n ret k) (ha : a ∈ z_ids E) (hce : z_cell E (σ.1 a) (σ.2 a) a = .inr (ci, fs)) (hc : z_cl[ci]? = some (y.cls, T, N)) (hlen : As.length = k) (hst : st = As.reverse ++ .ref (z_ad E a) :: rest) (hj : j < lev) (hrest : (rest.map fun v => v.category).sum ≤ 8) (hdg : decode cc pc = .ok (.invokevirtual index, 3)) :
    va_Run p l e (z_rm lev) s m args below meth c H locs 0 0 0 0 (F0 m pc ls st) rest (Qx (z_A E H.size) (Value.ref (z_ad E a) :: As).toArray) (z_A E H.size) := by
  obtain ⟨⟨w1, w2, w3, w4, w5⟩, ⟨d1, d2, d3⟩, hn⟩ := cv
  have hp := z_preS C hs (Value.ref (z_ad E a) :: As)
  obtain ⟨q0, -, he⟩ := z_at σ ha
  rw [hce] at he
  have hrv := va_recv C.2.2.2.2.2.1.1 hs.1 hc he
  refine va_runV (bytes := b) (maxL := n) (ret := ret) (C := y.cls) ⟨C.1, C.2.1, C.2.2.1, C.2.2.2.1, C.2.2.2.2.1⟩ (hM H.size) (cwV k C.2.2.2.2.1 (z_gin (fun w h => h) ?_) rfl rfl rfl ⟨rfl, d1, d2, d3⟩ (z_rmok hj hn)) ⟨hp.1, hrv, hp.2⟩ rfl hlen hls hst (lv_room hrest) hdg ⟨Nat.le_refl _, Nat.le_refl _⟩
  refine z_wsin w5 (fun w hw => ?_)
  simp only [List.mem_cons, List.not_mem_nil, or_false] at hw
  rcases hw with rfl | rfl | rfl | rfl
  · exact w1
  · exact w2
  · exact w3
  · exact w4
theorem z_runS {Qx : (Nat → Prop) → Array Value → State → Outcome → State → Prop} {As : List Value} {index k : Nat} (C : z_C E own cc nL A p s m args meth c) (hs : z_H E A s σ H locs) (hls : ls.size = nL) (hM : z_T l E y b n ret (z_rm j) Qx As σ) (cv : z_CS own index y b n ret k) (hown : y.cls = own) (hlen : As.length = k) (hst : st = As.reverse ++ rest) (hj : j < lev) (hrest : (rest.map fun v => v.category).sum ≤ 8) (hdg : decode cc pc = .ok (.invokestatic index, 3)) :
    va_Run p l e (z_rm lev) s m args below meth c H locs 0 0 0 0 (F0 m pc ls st) rest (Qx (z_A E H.size) As.toArray) (z_A E H.size) := by
  obtain ⟨⟨w1, w2, w4, w5⟩, ⟨d1, d2, d3⟩, hn⟩ := cv
  have hp := z_preS C hs As
  refine va_runS (bytes := b) (maxL := n) (ret := ret) ⟨C.1, C.2.1, C.2.2.1, C.2.2.2.1, C.2.2.2.2.1⟩ (hM H.size) (cwS k C.2.2.2.2.1 (z_gin (fun w h => h) ?_) rfl rfl rfl ⟨hown, d1, d2, d3⟩ (z_rmok hj hn)) hp rfl hlen hls hst (lv_room hrest) hdg ⟨Nat.le_refl _, Nat.le_refl _⟩
  refine z_wsin w5 (fun w hw => ?_)
  simp only [List.mem_cons, List.not_mem_nil, or_false] at hw
  rcases hw with rfl | rfl | rfl
  · exact w1
  · exact w2
  · rw [← hown]; exact w4
theorem z_runN {Qx : (Nat → Prop) → Array Value → State → Outcome → State → Prop} {As : List Value} {index k : Nat} {host : String} (C : z_C E own cc nL A p s m args meth c) (hs : z_H E A s σ H locs) (hls : ls.size = nL) (hM : z_T l E y b n ret (z_rm j) Qx As σ) (cv : z_CN own index y host b n ret k) (hlen : As.length = k) (hst : st = As.reverse ++ rest) (hj : j < lev) (hrest : (rest.map fun v => v.category).sum ≤ 8) (hdg : decode cc pc = .ok (.invokestatic index, 3)) :
    va_Run p l e (z_rm lev) s m args below meth c H locs 0 0 0 0 (F0 m pc ls st) rest (Qx (z_A E H.size) As.toArray) (z_A E H.size) := by
  obtain ⟨⟨w1, w2, w4, w5⟩, ⟨d1, d2, d3⟩, hn⟩ := cv
  have hp := z_preS C hs As
  refine va_runSN (bytes := b) (maxL := n) (ret := ret) ⟨C.1, C.2.1, C.2.2.1, C.2.2.2.1, C.2.2.2.2.1⟩ (hM H.size) ⟨va_cnB k C.2.2.2.2.1 (z_gin (fun w h => h) ?_) rfl rfl rfl (C.2.2.2.2.2.1.2 _ w1) (C.2.2.2.2.1 _ w4) ⟨d1, d2, d3⟩ (z_rmok hj hn), C.2.2.2.2.1 _ w2, trivial⟩ hp rfl hlen hls hst (lv_room hrest) hdg ⟨Nat.le_refl _, Nat.le_refl _⟩
  exact z_wsin (ws := []) w5 (fun w hw => by cases hw)
theorem z_goI {rv : Int32} {a : Array Value} (C : z_C E own cc nL A p s m args meth c) (hs : z_H E A s σ H locs) (hr : va_Run p l e (z_rm lev) s m args below meth c H locs 0 0 0 0 (F0 m pc ls st) rest (z_QI E rv τ (z_A E H.size) a) (z_A E H.size))
    (kk : ∀ (H : Heap) (locs : List Loc), z_H E A s τ H locs → W p l e (z_rm lev) s m args below meth c H locs 0 0 Q (F0 m (pc + 3) ls (.int rv :: rest))) : W p l e (z_rm lev) s m args below meth c H locs 0 0 Q (F0 m pc ls st) := by
  refine va_calli hr hs.2 (fun q _ h => z_freeA C hs q h) (z_freeA C hs) (fun r u t H1 locs1 ht _ hw hB _ _ hS => ?_)
  subst hw
  rw [ht] at hB
  exact kk H1 locs1 ⟨hB, hS⟩
theorem z_goV {a : Array Value} (C : z_C E own cc nL A p s m args meth c) (hs : z_H E A s σ H locs) (hr : va_Run p l e (z_rm lev) s m args below meth c H locs 0 0 0 0 (F0 m pc ls st) rest (z_QV E () τ (z_A E H.size) a) (z_A E H.size))
    (kk : ∀ (H : Heap) (locs : List Loc), z_H E A s τ H locs → W p l e (z_rm lev) s m args below meth c H locs 0 0 Q (F0 m (pc + 3) ls rest)) : W p l e (z_rm lev) s m args below meth c H locs 0 0 Q (F0 m pc ls st) := by
  refine va_callv hr hs.2 (fun q _ h => z_freeA C hs q h) (z_freeA C hs) (fun u t H1 locs1 ht _ hw hB _ _ hS => ?_)
  rw [ht] at hB
  exact kk H1 locs1 ⟨hB, hS⟩
theorem z_goQ {ro : Option zJ} {a : Array Value} (C : z_C E own cc nL A p s m args meth c) (hs : z_H E A s σ H locs) (hr : va_Run p l e (z_rm lev) s m args below meth c H locs 0 0 0 0 (F0 m pc ls st) rest (z_QQ E ro τ (z_A E H.size) a) (z_A E H.size))
    (kk : ∀ (H : Heap) (locs : List Loc), z_H E A s τ H locs → W p l e (z_rm lev) s m args below meth c H locs 0 0 Q (F0 m (pc + 3) ls (va_rf (ro.map (z_ad E)) :: rest))) : W p l e (z_rm lev) s m args below meth c H locs 0 0 Q (F0 m pc ls st) := by
  refine va_callq hr hs.2 (fun q _ h => z_freeA C hs q h) (z_freeA C hs) (fun r u t H1 locs1 ht _ hw hB _ _ hS => ?_)
  subst hw
  rw [ht] at hB
  exact kk H1 locs1 ⟨hB, hS⟩
theorem z_hp {t : State} (ht : t.heap = H) (hs : z_H E A s σ H locs) : va_P E.1 z_cl (z_ws E σ) t.heap := by rw [ht]; exact hs.1
theorem z_reti {ro v : Int32} {σo : zS} {R : Room} (C : z_C E own cc nL A p s m args meth c) (hr : meth.sig.returnType = some .int) (hs : z_H E A s σ H locs) (hf : some (v, σ) = some (ro, σo)) (hdg : decode cc pc = .ok (.ireturn, 1)) : W p l e R s m args below meth c H locs 0 0 (MQ below (z_QI E ro σo A) args s 0 0 A) (F0 m pc ls [.int v]) := by
  cases hf
  exact W.iret C.1 C.2.1 hr (fun t ht _ => ⟨⟨_, (), rfl, rfl, z_hp ht hs⟩, hs.2.F ht⟩) hs.2.2.2 hdg C.2.2.2.2.2.2.2.2
theorem z_retz {ro v : Int32} {σo : zS} {R : Room} (C : z_C E own cc nL A p s m args meth c) (hr : meth.sig.returnType = some .boolean) (hs : z_H E A s σ H locs) (hv : z_b01 v = true) (hf : some (v, σ) = some (ro, σo)) (hdg : decode cc pc = .ok (.ireturn, 1)) : W p l e R s m args below meth c H locs 0 0 (MQ below (z_QI E ro σo A) args s 0 0 A) (F0 m pc ls [.int v]) := by
  cases hf
  exact W.zret C.1 C.2.1 hr (z_b01n hv) (fun t ht _ => ⟨⟨_, (), rfl, rfl, z_hp ht hs⟩, hs.2.F ht⟩) hs.2.2.2 hdg C.2.2.2.2.2.2.2.2
theorem z_retv {ro : Unit} {σo : zS} {R : Room} (C : z_C E own cc nL A p s m args meth c) (hr : meth.sig.returnType = none) (hs : z_H E A s σ H locs) (hf : some ((), σ) = some (ro, σo)) (hdg : decode cc pc = .ok (.return_, 1)) : W p l e R s m args below meth c H locs 0 0 (MQ below (z_QV E ro σo A) args s 0 0 A) (F0 m pc ls []) := by
  cases hf
  exact W.vret C.1 C.2.1 hr (fun t ht _ => ⟨⟨(), rfl, trivial, z_hp ht hs⟩, hs.2.F ht⟩) hs.2.2.2 hdg C.2.2.2.2.2.2.2.2
theorem z_retq {ro r : Option zJ} {σo : zS} {R : Room} {rt : String} {v : Value} (C : z_C E own cc nL A p s m args meth c) (hr : meth.sig.returnType = some (.object rt)) (hs : z_H E A s σ H locs) (hv : v = va_rf (r.map (z_ad E))) (hf : some (r, σ) = some (ro, σo)) (hdg : decode cc pc = .ok (.areturn, 1)) : W p l e R s m args below meth c H locs 0 0 (MQ below (z_QQ E ro σo A) args s 0 0 A) (F0 m pc ls [v]) := by
  cases hf
  subst hv
  exact W.aret C.1 C.2.1 hr (Or.inl ⟨_, rfl⟩) (va_rf_or _) (fun t ht _ => ⟨⟨_, (), rfl, rfl, z_hp ht hs⟩, hs.2.F ht⟩) hs.2.2.2 hdg C.2.2.2.2.2.2.2.2
end z_callrows
