/-! constructors: this stands first in the list of cells, new cells come behind -/
theorem z_aI : Cond.arrayClass .int ∈ z_wl := z_mem 69 (by decide +kernel)
theorem z_aB : Cond.arrayClass .byte ∈ z_wl := z_mem 68 (by decide +kernel)
theorem z_aZ : Cond.arrayClass .boolean ∈ z_wl := z_mem 70 (by decide +kernel)
theorem z_aJ : Cond.arrayClass .long ∈ z_wl := z_mem 1032 (by decide +kernel)
def z_KA (E : zE) (U : State) : Prop := z_K E U ∧ va_AO RX1 U ∧ va_AO RX2 U ∧ va_AO RX7 U
theorem z_KA.moved {E : zE} {s U : State} (hW : s.WarmedH U.vm) (h : z_KA E s) : z_KA E U := ⟨h.1.moved hW, h.2.1.moved hW.alike, h.2.2.1.moved hW.alike, h.2.2.2.moved hW.alike⟩
def zn_C (E : zE) (own : String) (cc : ByteArray) (nL : Nat) (A : Nat → Prop) (p : Program) (s : State) (m : MethodId) (args : Array Value) (meth : Method) (c : Code) : Prop :=
  p.tables.exec = Jvm.exec ∧ c.code = cc ∧ c.maxLocals = nL ∧ s.vm.findClass own = some m.cls ∧ (∀ w ∈ z_wl, w.before args s = true) ∧ z_KA E s ∧ (∀ q : Nat, s.heap.size ≤ q → A q) ∧ meth.locks = false
def zn_H (E : zE) (A : Nat → Prop) (s : State) (ws : va_W) (H : Heap) (locs : List Loc) : Prop := va_P E.1 z_cl ws H ∧ va_D A ws ∧ va_S A s.heap H locs
/-- a constructor's contract -/
def z_N (l : Launch) (E : zE) (y : MethodName) (b : ByteArray) (n : Nat) (rm : Room) (ci : Nat) (fs : List Value) (w : (Nat → Nat) → va_W) (mc ms : Nat) : Prop :=
  ∀ h0 sz : Nat, Met l y (.code y b n none :: z_wl) rm (va_Pc [.ref h0] (fun U => U.heap.size = sz ∧ va_P E.1 z_cl [(h0, .inr (ci, fs))] U.heap ∧ z_KA E U ∧ va_D (fun _ => True) [(h0, .inr (ci, fs))])) (va_Qv (S := Nat → Nat) (fun f => f 0 = h0) (fun f t => va_P E.1 z_cl (w f) t.heap ∧ va_D (va_A [(h0, .inr (ci, fs))] sz) (w f)) (va_A [(h0, .inr (ci, fs))] sz)) mc ms (va_A [(h0, .inr (ci, fs))] sz)
theorem zn_enter {l : Launch} {E : zE} {y : MethodName} {b : ByteArray} {n : Nat} {rm : Room} {ci : Nat} {fs : List Value} {w : (Nat → Nat) → va_W} {mc ms : Nat} (hy : plainName y.cls = true) (hn : 1 ≤ n)
    (body : ∀ (h0 : Nat) (p : Program) (e : Env) (s : State) (m : MethodId) (below : List Frame) (meth : Method) (c : Code) (A : Nat → Prop) (ls : Array Slot), zn_C E y.cls b n A p s m #[.ref h0] meth c → meth.sig.returnType = none → meth.name = y.name → zn_H E A s [(h0, .inr (ci, fs))] s.heap [] → lv_has ls n [(0, .ref h0)] → W p l e rm s m #[.ref h0] below meth c s.heap [] 0 0 (MQ below (va_Qv (S := Nat → Nat) (fun f => f 0 = h0) (fun f t => va_P E.1 z_cl (w f) t.heap ∧ va_D A (w f)) A) #[.ref h0] s mc ms A) (F0 m 0 ls [])) : z_N l E y b n rm ci fs w mc ms := by
  intro h0 sz
  refine Met.ofW (cc := b) (maxL := n) (ret := none) hy rfl ?_
  intro p e s m args below meth c s₁ B hml hv
  obtain ⟨rfl, hsz, hP, hK, hD0⟩ := hv
  have hts := atoms_spec (ws := .code y b n none :: z_wl) B.pre
  have hown : s.vm.findClass y.cls = some m.cls := findClass_of_methodNamed B.named
  have hnm : meth.name = y.name := (name_of_methodNamed B.named B.method).1
  subst hsz
  have hl := lv_entry [.ref h0] (n := n) hn
  rw [lg_entry_eq]
  exact body h0 p e s m below meth c _ _ ⟨B.exec, B.bytes, hml, hown, fun w hw => hts w (List.mem_cons_of_mem _ hw), hK, fun q h => Or.inr h, B.notSynchronized⟩ B.returns hnm ⟨hP, hD0.self, va_S.rf⟩ hl
/-- the frame rule: the callee's cells stand at the end -/
theorem zn_join {A0 : Nat → Prop} {D : va_G} {ws wc w1 : va_W} {H H1 : Heap} (hP : va_P D z_cl (ws ++ wc) H) (hD : va_D A0 (ws ++ wc)) (hk : ∀ q : Nat, q < H.size → ¬ va_A wc H.size q → H1[q]? = H[q]?) (hF : ∀ q, va_A wc H.size q → A0 q) (hP1 : va_P D z_cl w1 H1) (hD1 : va_D (va_A wc H.size) w1) : va_P D z_cl (ws ++ w1) H1 ∧ va_D A0 (ws ++ w1) := by
  have inl : ∀ {k : Nat} {q : Nat × va_E}, ws[k]? = some q → (ws ++ wc)[k]? = some q := fun {k q} h => by
    rw [List.getElem?_append_left (List.getElem?_eq_some_iff.mp h).1]; exact h
  have nA : ∀ {k : Nat} {q : Nat × va_E}, ws[k]? = some q → q.1 < H.size ∧ ¬ va_A wc H.size q.1 := by
    intro k q h
    have hlt := (hP k q (inl h)).lt
    refine ⟨hlt, ?_⟩
    rintro (⟨j, x, hj⟩ | h2)
    · have h3 : (ws ++ wc)[ws.length + j]? = some (q.1, x) := by
        rw [List.getElem?_append_right (by omega), show ws.length + j - ws.length = j by omega]; exact hj
      have := hD.1 k (ws.length + j) q (q.1, x) (inl h) h3 rfl
      have := (List.getElem?_eq_some_iff.mp h).1
      omega
    · omega
  refine ⟨va_P.app (fun k q h => (hP k q (inl h)).kept (hk q.1 (nA h).1 (nA h).2)) hP1, va_D.app ⟨fun i j p q hi hj => hD.1 i j p q (inl hi) (inl hj), fun k q h => hD.2 k q (inl h)⟩ (hD1.weaken (fun _ _ _ h => hF _ h)) ?_⟩
  intro i j p q hi hj e1
  exact (nA hi).2 (e1 ▸ hD1.2 j q hj)
section zn_rows
variable {p : Program} {l : Launch} {e : Env} {R : Room} {s : State} {m : MethodId} {args : Array Value} {below : List Frame} {meth : Method} {c : Code} {H : Heap} {locs : List Loc} {cells slots : Nat} {Q : State → Prop}
variable {cc : ByteArray} {pc nL : Nat} {ls : Array Slot} {rest : List Value} {E : zE} {A : Nat → Prop} {own : String} {ws : va_W}
theorem zn_objInit (C : zn_C E own cc nL A p s m args meth c) (hls : ls.size = nL) {a idx : Nat} (hl : Cond.methodLink own idx objectInit ∈ z_wl) (hi : Cond.instanceMethod objectInit ∈ z_wl) (hc : Cond.code objectInit ⟨#[0xb1]⟩ 1 none ∈ z_wl) (hfr : 1 ≤ R.frames) (hlo : 60 ≤ R.locals) (hd : decode cc pc = .ok (.invokespecial idx, 3))
    (kk : W p l e R s m args below meth c H locs cells slots Q (F0 m (pc + 3) ls [])) : W p l e R s m args below meth c H locs cells slots Q (F0 m pc ls [.ref a]) := by
  obtain ⟨hex, hb, hml, hown, hts, hK, hA, -⟩ := C
  refine W.objInit hex hb hown (hts _ hl) (hts _ hi) (hts _ hc) rfl (by rw [hml]; exact hls) rfl hd hfr (by show 2 * 0 + 0 + 12 ≤ R.locals; omega) ?_
  exact kk
theorem zn_cy {ty : FieldType} {t0 : Nat} {cA : ClassId} {U : State} (h : va_K E.1 z_cl (z_ty E ++ [(cA, ty)]) U) (ht : (z_ty E)[t0]? = some (z_cy E t0, ty)) (hp : ∀ C, ty ≠ .object C) : cA = z_cy E t0 := by
  have h1 := (h.2 7 (cA, ty) rfl).2
  have hl : t0 < (z_ty E).length := (List.getElem?_eq_some_iff.mp ht).1
  have h2 := (h.2 t0 (z_cy E t0, ty) (by rw [List.getElem?_append_left hl]; exact ht)).2
  cases ty with
  | object C => exact absurd rfl (hp C)
  | _ => exact Option.some.inj (h1.symm.trans h2)
theorem zn_cyO {C0 : String} {t0 : Nat} {cA : ClassId} {U : State} (h : va_K E.1 z_cl (z_ty E ++ [(cA, .object C0)]) U) (ht : (z_ty E)[t0]? = some (z_cy E t0, .object C0)) : cA = z_cy E t0 := by
  obtain ⟨-, -, -, -, -, h1⟩ := (h.2 7 (cA, .object C0) rfl).2
  have hl : t0 < (z_ty E).length := (List.getElem?_eq_some_iff.mp ht).1
  obtain ⟨-, -, -, -, -, h2⟩ := (h.2 t0 (z_cy E t0, .object C0) (by rw [List.getElem?_append_left hl]; exact ht)).2
  exact Option.some.inj (h1.symm.trans h2)
theorem zn_arr (C : zn_C E own cc nL A p s m args meth c) (hs : zn_H E A s ws H locs) {atype : ArrayType} {ty : FieldType} (harr : Cond.arrayClass ty ∈ z_wl) (hty : newarray.typeOf atype = ty) (t0 : Nat) (ht : (z_ty E)[t0]? = some (z_cy E t0, ty)) (hp : ∀ C, ty ≠ .object C) {n : Int32} (N : Nat) {a0 : vp_A} (ha : ∀ cA : ClassId, vp_cell cA a0 = arrV cA N (fun _ => defaultValue ty)) (hn : ¬ n < 0) (hN : n.toNatClampNeg = N) (hby : N * componentBytes ty ≤ 536870912) (hce : cells + 1 ≤ R.cells) (hsl : slots + N ≤ R.slots) (hdg : decode cc pc = .ok (.newarray atype, 2))
    (kk : ∀ (q : Nat) (H : Heap), zn_H E A s (ws ++ [(q, .inl (z_cy E t0, a0))]) H locs → W p l e R s m args below meth c H locs (cells + 1) (slots + N) Q (F0 m (pc + 2) ls (.ref q :: rest))) : W p l e R s m args below meth c H locs cells slots Q (F0 m pc ls (.int n :: rest)) := by
  obtain ⟨hex, hb, hml, hown, hts, hK, hA, -⟩ := C
  refine va_newa hex hb (by rw [hty]; exact hts _ harr) hty hK.1.1 hs.1 hs.2.1 hs.2.2 hA ha hn hN hby hce hsl hdg (fun q cA H1 k1 h1 h2 h3 => ?_)
  have e1 := zn_cy k1 ht hp
  subst e1
  exact kk q H1 ⟨h1, h2, h3⟩
theorem zn_anew (C : zn_C E own cc nL A p s m args meth c) (hs : zn_H E A s ws H locs) {C0 : String} {index : Nat} (hcl : Cond.classLink own index C0 ∈ z_wl) (hao : va_AO C0 s) (t0 : Nat) (ht : (z_ty E)[t0]? = some (z_cy E t0, .object C0)) {n : Int32} (N : Nat) (hn : ¬ n < 0) (hN : n.toNatClampNeg = N) (hby : N * 4 ≤ 536870912) (hce : cells + 1 ≤ R.cells) (hsl : slots + N ≤ R.slots) (hdg : decode cc pc = .ok (.anewarray index, 3))
    (kk : ∀ (q : Nat) (H : Heap), zn_H E A s (ws ++ [(q, .inl (z_cy E t0, N, .inr (.inr (.inr (.inr (fun _ => none))))))]) H locs → W p l e R s m args below meth c H locs (cells + 1) (slots + N) Q (F0 m (pc + 3) ls (.ref q :: rest))) : W p l e R s m args below meth c H locs cells slots Q (F0 m pc ls (.int n :: rest)) := by
  obtain ⟨hex, hb, hml, hown, hts, hK, hA, -⟩ := C
  refine va_newq hex hb hown (hts _ hcl) hao hK.1.1 hs.1 hs.2.1 hs.2.2 hA hn hN hby hce hsl hdg (fun q cA H1 k1 h1 h2 h3 => ?_)
  have e1 := zn_cyO k1 ht
  subst e1
  exact kk q H1 ⟨h1, h2, h3⟩
/-- a final field of this, which stands first -/
theorem zn_putF (C : zn_C E own cc nL A p s m args meth c) (hin2 : meth.name = "<init>") {h0 ci N index : Nat} {fs : List Value} {T : u_T} (hs : zn_H E A s ((h0, .inr (ci, fs)) :: ws) H locs) (hc : z_cl[ci]? = some (own, T, N)) (hin : ∀ w ∈ u_ws own T N, w ∈ z_wl) (ty0 : Nat → FieldType) (hty : ∀ k, k < N → parseFieldDescriptor (T k).2.2.1 = some (ty0 k)) (hnm : ∀ a, a < N → ∀ b, b < N → a ≠ b → (T a).2.1 ≠ (T b).2.1) (k : Nat) (hk : k < N) (hl : Cond.fieldLink own index (T k).1 (T k).2.1 (T k).2.2.1 ∈ z_wl) (hfin : (T k).2.2.2 = true) (hdecl : (T k).1 = own) {v : Nat} (hn : narrow (ty0 k) (.ref v) = .ref v) (hfit : fits (ty0 k) (.ref v) = true) (hlen : k < fs.length) {fs' : List Value} (hfs : fs.set k (.ref v) = fs') (hdg : decode cc pc = .ok (.putfield index, 3))
    (kk : ∀ (H : Heap) (locs : List Loc), zn_H E A s ((h0, .inr (ci, fs')) :: ws) H locs → W p l e R s m args below meth c H locs cells slots Q (F0 m (pc + 3) ls rest)) : W p l e R s m args below meth c H locs cells slots Q (F0 m pc ls (.ref v :: .ref h0 :: rest)) := by
  obtain ⟨hex, hb, hml, hown, hts, hK, hA, -⟩ := C
  subst hfs
  exact va_putF hex hb hts hin ty0 hty hnm hown hK.1.1 hs.1 hs.2.1 hs.2.2 0 rfl hc k hk (hts _ hl) (fun _ h => h) hfin hin2 hdecl (hty k hk) hn hfit hlen hdg (fun H1 locs1 h1 h2 h3 => kk H1 locs1 ⟨h1, h2, h3⟩)
theorem zn_putFe (C : zn_C E own cc nL A p s m args meth c) (hin2 : meth.name = "<init>") {h0 ci N index : Nat} {fs : List Value} {T : u_T} (hs : zn_H E A s ((h0, .inr (ci, fs)) :: ws) H locs) (hc : z_cl[ci]? = some (own, T, N)) (hin : ∀ w ∈ u_ws own T N, w ∈ z_wl) (ty0 : Nat → FieldType) (hty : ∀ k, k < N → parseFieldDescriptor (T k).2.2.1 = some (ty0 k)) (hnm : ∀ a, a < N → ∀ b, b < N → a ≠ b → (T a).2.1 ≠ (T b).2.1) (k : Nat) (hk : k < N) {dc nm ds : String} (hl : Cond.fieldLink own index dc nm ds ∈ z_wl) (hT : T k = (dc, nm, ds, true)) (hdecl : dc = own) (t0 : FieldType) (ht0 : ty0 k = t0) {v : Nat} (hn : narrow t0 (.ref v) = .ref v) (hfit : fits t0 (.ref v) = true) (hlen : k < fs.length) {fs' : List Value} (hfs : fs.set k (.ref v) = fs') (hdg : decode cc pc = .ok (.putfield index, 3))
    (kk : ∀ (H : Heap) (locs : List Loc), zn_H E A s ((h0, .inr (ci, fs')) :: ws) H locs → W p l e R s m args below meth c H locs cells slots Q (F0 m (pc + 3) ls rest)) : W p l e R s m args below meth c H locs cells slots Q (F0 m pc ls (.ref v :: .ref h0 :: rest)) :=
  zn_putF C hin2 hs hc hin ty0 hty hnm k hk (by rw [hT]; exact hl) (by rw [hT]) (by rw [hT]; exact hdecl) (by rw [ht0]; exact hn) (by rw [ht0]; exact hfit) hlen hfs hdg kk
theorem zn_putI (C : zn_C E own cc nL A p s m args meth c) {h0 ci N index : Nat} {fs : List Value} {T : u_T} (hs : zn_H E A s ((h0, .inr (ci, fs)) :: ws) H locs) (hc : z_cl[ci]? = some (own, T, N)) (hin : ∀ w ∈ u_ws own T N, w ∈ z_wl) (ty0 : Nat → FieldType) (hty : ∀ k, k < N → parseFieldDescriptor (T k).2.2.1 = some (ty0 k)) (hnm : ∀ a, a < N → ∀ b, b < N → a ≠ b → (T a).2.1 ≠ (T b).2.1) (k : Nat) (hk : k < N) (hl : Cond.fieldLink own index (T k).1 (T k).2.1 (T k).2.2.1 ∈ z_wl) (hfin : (T k).2.2.2 = false) {v : Int32} (hn : narrow (ty0 k) (.int v) = .int v) (hfit : fits (ty0 k) (.int v) = true) (hlen : k < fs.length) {fs' : List Value} (hfs : fs.set k (.int v) = fs') (hdg : decode cc pc = .ok (.putfield index, 3))
    (kk : ∀ (H : Heap) (locs : List Loc), zn_H E A s ((h0, .inr (ci, fs')) :: ws) H locs → W p l e R s m args below meth c H locs cells slots Q (F0 m (pc + 3) ls rest)) : W p l e R s m args below meth c H locs cells slots Q (F0 m pc ls (.int v :: .ref h0 :: rest)) := by
  obtain ⟨hex, hb, hml, hown, hts, hK, hA, -⟩ := C
  subst hfs
  exact va_put hex hb hts hin ty0 hty hnm hown hK.1.1 hs.1 hs.2.1 hs.2.2 0 rfl hc k hk (hts _ hl) (fun _ h => h) hfin (hty k hk) hn hfit hlen hdg (fun H1 locs1 h1 h2 h3 => kk H1 locs1 ⟨h1, h2, h3⟩)
/-- new, dup, and the constructor, by its contract -/
theorem zn_new (C : zn_C E own cc nL A p s m args meth c) (hs : zn_H E A s ws H locs) {Cn : String} {T : u_T} {N ci index : Nat} (hin : ∀ w ∈ u_ws Cn T N, w ∈ z_wl) (ty : Nat → FieldType) (hty : ∀ k, k < N → parseFieldDescriptor (T k).2.2.1 = some (ty k)) (hcl : Cond.classLink own index Cn ∈ z_wl) (hinst : Cond.instantiable Cn N ∈ z_wl) (hini : Cond.initialized Cn ∈ z_wl) (hc : z_cl[ci]? = some (Cn, T, N)) {fs : List Value} (hfs : ∀ j, j < N → defaultValue (ty j) = vp_V fs j) (hce : cells + 1 ≤ R.cells) (hsl : slots + N ≤ R.slots) (hdg : decode cc pc = .ok (.new index, 3)) (hd2 : decode cc (pc + 3) = .ok (.dup, 1))
    (kk : ∀ (q : Nat) (H : Heap), zn_H E A s (ws ++ [(q, .inr (ci, fs))]) H locs → W p l e R s m args below meth c H locs (cells + 1) (slots + N) Q (F0 m (pc + 4) ls (.ref q :: .ref q :: rest))) : W p l e R s m args below meth c H locs cells slots Q (F0 m pc ls rest) := by
  obtain ⟨hex, hb, hml, hown, hts, hK, hA, -⟩ := C
  refine va_new hex hb hts hin ty hty hown (hts _ hcl) (hts _ hinst) (hts _ hini) hK.1.1 hs.1 hs.2.1 hs.2.2 hA hc hfs hce hsl hdg (fun q H1 h1 h2 h3 => ?_)
  exact lv_dup hex hb hd2 rfl (kk q H1 ⟨h1, h2, h3⟩)
theorem zn_preN (C : zn_C E own cc nL A p s m args meth c) {ci q : Nat} {fs : List Value} (hs : zn_H E A s (ws ++ [(q, .inr (ci, fs))]) H locs) : PreS s H (va_Pc [.ref q] (fun U => U.heap.size = H.size ∧ va_P E.1 z_cl [(q, .inr (ci, fs))] U.heap ∧ z_KA E U ∧ va_D (fun _ => True) [(q, .inr (ci, fs))])) [.ref q] := by
  obtain ⟨hex, hb, hml, hown, hts, hK, hA, -⟩ := C
  have hP : va_P E.1 z_cl [(q, .inr (ci, fs))] H := fun k x hx => by
    have hk : k < 1 := (List.getElem?_eq_some_iff.mp hx).1
    rw [show k = 0 by omega] at hx
    exact hs.1 ws.length x (by rw [List.getElem?_append_right (Nat.le_refl _), Nat.sub_self]; exact hx)
  refine ⟨fun a U g mk q => ?_, fun U hU hW => ⟨rfl, by rw [hU], by rw [hU]; exact hP, hK.moved hW, ?_⟩⟩
  · obtain ⟨q0, q1, qP, qK, qD⟩ := q
    exact ⟨q0, q1, qP, ⟨⟨va_K.moved (u := U) (U := U.calling g mk a) (Vm.Alike.refl U.vm) qK.1.1, fun w hw => va_tabs (u := U) (U := U.calling g mk a) (z_nlT hw) rfl (qK.1.2 w hw)⟩, qK.2.1.moved (u := U) (U := U.calling g mk a) (Vm.Alike.refl U.vm), qK.2.2.1.moved (u := U) (U := U.calling g mk a) (Vm.Alike.refl U.vm), qK.2.2.2.moved (u := U) (U := U.calling g mk a) (Vm.Alike.refl U.vm)⟩, qD⟩
  · refine ⟨fun i j x z hi hj _ => ?_, fun _ _ _ => trivial⟩
    have h1 : i < 1 := (List.getElem?_eq_some_iff.mp hi).1
    have h2 : j < 1 := (List.getElem?_eq_some_iff.mp hj).1
    omega
theorem zn_go (C : zn_C E own cc nL A p s m args meth c) {ci q mc ms : Nat} {fs : List Value} {w : (Nat → Nat) → va_W} {st : List Value} {a : Array Value} (hs : zn_H E A s (ws ++ [(q, .inr (ci, fs))]) H locs)
    (hr : va_Run p l e R s m args below meth c H locs cells slots mc ms (F0 m pc ls st) rest (va_Qv (S := Nat → Nat) (fun f => f 0 = q) (fun f t => va_P E.1 z_cl (w f) t.heap ∧ va_D (va_A [(q, .inr (ci, fs))] H.size) (w f)) (va_A [(q, .inr (ci, fs))] H.size) a) (va_A [(q, .inr (ci, fs))] H.size))
    (kk : ∀ (f : Nat → Nat) (H : Heap) (locs : List Loc), f 0 = q → zn_H E A s (ws ++ w f) H locs → W p l e R s m args below meth c H locs (cells + mc) (slots + ms) Q (F0 m (pc + 3) ls rest)) : W p l e R s m args below meth c H locs cells slots Q (F0 m pc ls st) := by
  obtain ⟨hex, hb, hml, hown, hts, hK, hA, -⟩ := C
  have hF : ∀ x, va_A [(q, .inr (ci, fs))] H.size x → A x := by
    rintro x (⟨k, y, hk⟩ | h)
    · refine hs.2.1.2 (ws.length + k) (x, y) ?_
      rw [List.getElem?_append_right (by omega), show ws.length + k - ws.length = k by omega]; exact hk
    · exact hA x (Nat.le_trans hs.2.2.1 h)
  refine va_callv hr hs.2.2 (fun x _ h => hF x h) hF (fun u t H1 locs1 ht _ hw hB _ hk1 hS => ?_)
  obtain ⟨hP1, hD1⟩ := hB
  rw [ht] at hP1
  obtain ⟨j1, j2⟩ := zn_join hs.1 hs.2.1 hk1 hF hP1 hD1
  exact kk u H1 locs1 hw ⟨j1, j2, hS⟩
/-- a nest mate's constructor -/
theorem zn_callN (C : zn_C E own cc nL A p s m args meth c) (hls : ls.size = nL) {ci q mc ms n index : Nat} {y : MethodName} {b : ByteArray} {rm : Room} {fs : List Value} {w : (Nat → Nat) → va_W} {host : String} (hM : z_N l E y b n rm ci fs w mc ms) (hs : zn_H E A s (ws ++ [(q, .inr (ci, fs))]) H locs) (hrm : rm.cells = mc ∧ rm.slots = ms) (w1 : Cond.methodLinkNest own index y host ∈ z_nl) (w2 : Cond.instanceMethod y ∈ z_wl) (w3 : Cond.initialized y.cls ∈ z_wl) (w4 : Cond.code y b n none ∈ z_wl) (hd : y.name = "<init>" ∧ y.cls ≠ "java/lang/invoke/MethodHandle" ∧ y.cls ≠ "java/lang/invoke/VarHandle" ∧ (parseMethodDescriptor y.desc).map (fun d => d.parameters.length) = some 0) (hR : rm.frames + 1 ≤ R.frames ∧ 8 + (n + 11) + rm.locals ≤ R.locals) (hrest : (rest.map fun v => v.category).sum ≤ 8) (hf : cells + mc ≤ R.cells ∧ slots + ms ≤ R.slots) (hdg : decode cc pc = .ok (.invokespecial index, 3))
    (kk : ∀ (f : Nat → Nat) (H : Heap) (locs : List Loc), f 0 = q → zn_H E A s (ws ++ w f) H locs → W p l e R s m args below meth c H locs (cells + mc) (slots + ms) Q (F0 m (pc + 3) ls rest)) : W p l e R s m args below meth c H locs cells slots Q (F0 m pc ls (.ref q :: rest)) := by
  refine zn_go C hs (va_runIN (As := []) (bytes := b) (maxL := n) ⟨C.1, C.2.1, C.2.2.1, C.2.2.2.1, C.2.2.2.2.1⟩ (hM q H.size) ⟨va_cnB 0 C.2.2.2.2.1 (z_gin (fun w h => h) (z_wsin (ws := []) w4 (fun w hw => by cases hw))) rfl hrm.1 hrm.2 (C.2.2.2.2.2.1.1.2 _ w1) (C.2.2.2.2.1 _ w3) hd.2 hR, hd.1, C.2.2.2.2.1 _ w2⟩ (zn_preN C hs) rfl rfl hls rfl (lv_room hrest) hdg hf) kk
theorem zn_callI (C : zn_C E own cc nL A p s m args meth c) (hls : ls.size = nL) {ci q mc ms n index : Nat} {y : MethodName} {b : ByteArray} {rm : Room} {fs : List Value} {w : (Nat → Nat) → va_W} (hM : z_N l E y b n rm ci fs w mc ms) (hs : zn_H E A s (ws ++ [(q, .inr (ci, fs))]) H locs) (hrm : rm.cells = mc ∧ rm.slots = ms) (w1 : Cond.methodLink own index y ∈ z_wl) (w2 : Cond.instanceMethod y ∈ z_wl) (w3 : Cond.initialized y.cls ∈ z_wl) (w4 : Cond.code y b n none ∈ z_wl) (hd : y.name = "<init>" ∧ y.cls ≠ "java/lang/invoke/MethodHandle" ∧ y.cls ≠ "java/lang/invoke/VarHandle" ∧ (parseMethodDescriptor y.desc).map (fun d => d.parameters.length) = some 0) (hR : rm.frames + 1 ≤ R.frames ∧ 8 + (n + 11) + rm.locals ≤ R.locals) (hrest : (rest.map fun v => v.category).sum ≤ 8) (hf : cells + mc ≤ R.cells ∧ slots + ms ≤ R.slots) (hdg : decode cc pc = .ok (.invokespecial index, 3))
    (kk : ∀ (f : Nat → Nat) (H : Heap) (locs : List Loc), f 0 = q → zn_H E A s (ws ++ w f) H locs → W p l e R s m args below meth c H locs (cells + mc) (slots + ms) Q (F0 m (pc + 3) ls rest)) : W p l e R s m args below meth c H locs cells slots Q (F0 m pc ls (.ref q :: rest)) := by
  refine zn_go C hs (va_runI (As := []) (bytes := b) (maxL := n) ⟨C.1, C.2.1, C.2.2.1, C.2.2.2.1, C.2.2.2.2.1⟩ (hM q H.size) (cwI 0 C.2.2.2.2.1 (z_gin (fun w h => h) (z_wsin (ws := []) w4 (fun w hw => by cases hw))) rfl hrm.1 hrm.2 (C.2.2.2.2.1 _ w3) (C.2.2.2.2.1 _ w1) (C.2.2.2.2.1 _ w2) hd.1 hd.2 hR) (zn_preN C hs) rfl rfl hls rfl (lv_room hrest) hdg hf) kk
theorem zn_ret {h0 : Nat} {w : (Nat → Nat) → va_W} (C : zn_C E own cc nL A p s m args meth c) (hr : meth.sig.returnType = none) (hs : zn_H E A s ws H locs) (f : Nat → Nat) (h : f 0 = h0) (he : ∀ q ∈ w f, q ∈ ws) (hn : va_D A (w f)) (hdg : decode cc pc = .ok (.return_, 1)) : W p l e R s m args below meth c H locs cells slots (MQ below (va_Qv (S := Nat → Nat) (fun f => f 0 = h0) (fun f t => va_P E.1 z_cl (w f) t.heap ∧ va_D A (w f)) A) args s cells slots A) (F0 m pc ls []) := by
  refine W.vret C.1 C.2.1 hr (fun t ht _ => ⟨⟨f, rfl, h, ?_, hn⟩, hs.2.2.F ht⟩) hs.2.2.2.2 hdg C.2.2.2.2.2.2.2
  rw [ht]
  intro k q hk
  obtain ⟨j, hj⟩ := List.getElem?_of_mem (he q (List.mem_of_getElem? hk))
  exact hs.1 j q hj
end zn_rows
