/-! the three texts of the class, and the JDK's members that read them -/
def z_len : List Nat := [6, 6, 1]
def z_byt : List (List Int32) := [[107, 101, 101, 112, 101, 114], [115, 105, 108, 101, 110, 116], [59]]
def z_ch (i k : Nat) : Int32 := (z_byt.getD i []).getD k 0
/-- the texts, and two statics, outside what may be written -/
def z_Sx (K V : Nat → Nat) (fv : Value) (A : Nat → Prop) (U : State) (H : Heap) : Prop := vk_S 3 z_len z_byt K V A U H ∧ (vk_R RX6 74 "keeper" (K 0) U ∧ vk_R RX6 80 "silent" (K 1) U ∧ vk_R RX6 84 ";" (K 2) U) ∧ va_Z RJ0 "COMPACT_STRINGS" "Z" (.int 1) A U H ∧ va_Z RJ3 "SIOOBE_FORMATTER" "Ljava/util/function/BiFunction;" fv A U H ∧ (fv = .null ∨ ∃ t : Nat, fv = .ref t)
theorem z_Sx.narrow {K V : Nat → Nat} {fv : Value} {A B : Nat → Prop} {U : State} {H : Heap} (h : z_Sx K V fv A U H) (hAB : ∀ q, B q → A q) : z_Sx K V fv B U H := ⟨h.1.narrow hAB, h.2.1, h.2.2.1.narrow hAB, h.2.2.2.1.narrow hAB, h.2.2.2.2⟩
theorem z_Sx.kept {K V : Nat → Nat} {fv : Value} {A : Nat → Prop} {U : State} {H H1 : Heap} (h : z_Sx K V fv A U H) (hq : ∀ a : Nat, a < H.size → ¬ A a → H1[a]? = H[a]?) : z_Sx K V fv A U H1 := ⟨h.1.kept hq, h.2.1, h.2.2.1.kept hq, h.2.2.2.1.kept hq, h.2.2.2.2⟩
theorem z_Sx.warm {K V : Nat → Nat} {fv : Value} {A : Nat → Prop} {s U : State} {H : Heap} (hW : s.WarmedH U.vm) (h : z_Sx K V fv A s H) : z_Sx K V fv A U H := ⟨h.1.moved hW.alike, ⟨h.2.1.1.warm hW, h.2.1.2.1.warm hW, h.2.1.2.2.warm hW⟩, h.2.2.1.moved hW.alike, h.2.2.2.1.moved hW.alike, h.2.2.2.2⟩
theorem z_Sx.calling {K V : Nat → Nat} {fv : Value} {A : Nat → Prop} {U : State} {H : Heap} {g : JFrame} {mk : MethodId} {a : Array Value} (h : z_Sx K V fv A U H) : z_Sx K V fv A (U.calling g mk a) H := ⟨h.1.moved (u := U) (U := U.calling g mk a) (Vm.Alike.refl U.vm), ⟨h.2.1.1.same rfl, h.2.1.2.1.same rfl, h.2.1.2.2.same rfl⟩, h.2.2.1.moved (u := U) (U := U.calling g mk a) (Vm.Alike.refl U.vm), h.2.2.2.1.moved (u := U) (U := U.calling g mk a) (Vm.Alike.refl U.vm), h.2.2.2.2⟩
def z_nw (U : State) : Nat → Prop := fun q => U.heap.size ≤ q
/-- a member of the JDK that reads texts and writes nothing -/
def z_J (l : Launch) (K V : Nat → Nat) (fv : Value) (y : MethodName) (b : ByteArray) (n : Nat) (ret : Option FieldType) (rm : Room) (rv : Int32) (av : List Value) : Prop :=
  ∀ sz : Nat, Met l y (.code y b n ret :: z_wl) rm (va_Pc av (fun U => U.heap.size = sz ∧ z_Sx K V fv (fun q => sz ≤ q) U U.heap)) (va_Qi (S := Unit) (fun r _ => r = rv) (fun _ _ => True) (fun q => sz ≤ q)) 0 0 (fun q => sz ≤ q)
def z_Jv (l : Launch) (K V : Nat → Nat) (fv : Value) (y : MethodName) (b : ByteArray) (n : Nat) (rm : Room) (av : List Value) : Prop :=
  ∀ sz : Nat, Met l y (.code y b n none :: z_wl) rm (va_Pc av (fun U => U.heap.size = sz ∧ z_Sx K V fv (fun q => sz ≤ q) U U.heap)) (va_Qv (S := Unit) (fun _ => True) (fun _ _ => True) (fun q => sz ≤ q)) 0 0 (fun q => sz ≤ q)
def zj_C (K V : Nat → Nat) (fv : Value) (own : String) (cc : ByteArray) (nL : Nat) (p : Program) (s : State) (m : MethodId) (args : Array Value) (meth : Method) (c : Code) : Prop :=
  p.tables.exec = Jvm.exec ∧ c.code = cc ∧ c.maxLocals = nL ∧ s.vm.findClass own = some m.cls ∧ (∀ w ∈ z_wl, w.before args s = true) ∧ z_Sx K V fv (z_nw s) s s.heap ∧ meth.locks = false
theorem zj_enter {l : Launch} {K V : Nat → Nat} {fv : Value} {y : MethodName} {b : ByteArray} {n : Nat} {ret : Option FieldType} {rm : Room} {rv : Int32} {av : List Value} {lv : List (Nat × Value)} (hy : plainName y.cls = true) (hlen : (lg_sl av).length ≤ n) (hlv : lv_args 0 av = lv)
    (body : ∀ (p : Program) (e : Env) (s : State) (m : MethodId) (below : List Frame) (meth : Method) (c : Code) (ls : Array Slot), zj_C K V fv y.cls b n p s m av.toArray meth c → meth.sig.returnType = ret → va_S (z_nw s) s.heap s.heap [] → lv_has ls n lv → W p l e rm s m av.toArray below meth c s.heap [] 0 0 (MQ below (va_Qi (S := Unit) (fun r _ => r = rv) (fun _ _ => True) (z_nw s)) av.toArray s 0 0 (z_nw s)) (F0 m 0 ls [])) : z_J l K V fv y b n ret rm rv av := by
  intro sz
  refine Met.ofW (cc := b) (maxL := n) (ret := ret) hy rfl ?_
  intro p e s m args below meth c s₁ B hml hv
  obtain ⟨rfl, hsz, hS⟩ := hv
  have hts := atoms_spec (ws := .code y b n ret :: z_wl) B.pre
  have hown : s.vm.findClass y.cls = some m.cls := findClass_of_methodNamed B.named
  subst hsz
  have hl := lv_entry av (n := n) hlen
  rw [lg_entry_eq]
  rw [hlv] at hl
  exact body p e s m below meth c _ ⟨B.exec, B.bytes, hml, hown, fun w hw => hts w (List.mem_cons_of_mem _ hw), hS, B.notSynchronized⟩ B.returns va_S.rf hl
theorem zj_enterv {l : Launch} {K V : Nat → Nat} {fv : Value} {y : MethodName} {b : ByteArray} {n : Nat} {rm : Room} {av : List Value} {lv : List (Nat × Value)} (hy : plainName y.cls = true) (hlen : (lg_sl av).length ≤ n) (hlv : lv_args 0 av = lv)
    (body : ∀ (p : Program) (e : Env) (s : State) (m : MethodId) (below : List Frame) (meth : Method) (c : Code) (ls : Array Slot), zj_C K V fv y.cls b n p s m av.toArray meth c → meth.sig.returnType = none → va_S (z_nw s) s.heap s.heap [] → lv_has ls n lv → W p l e rm s m av.toArray below meth c s.heap [] 0 0 (MQ below (va_Qv (S := Unit) (fun _ => True) (fun _ _ => True) (z_nw s)) av.toArray s 0 0 (z_nw s)) (F0 m 0 ls [])) : z_Jv l K V fv y b n rm av := by
  intro sz
  refine Met.ofW (cc := b) (maxL := n) (ret := none) hy rfl ?_
  intro p e s m args below meth c s₁ B hml hv
  obtain ⟨rfl, hsz, hS⟩ := hv
  have hts := atoms_spec (ws := .code y b n none :: z_wl) B.pre
  have hown : s.vm.findClass y.cls = some m.cls := findClass_of_methodNamed B.named
  subst hsz
  have hl := lv_entry av (n := n) hlen
  rw [lg_entry_eq]
  rw [hlv] at hl
  exact body p e s m below meth c _ ⟨B.exec, B.bytes, hml, hown, fun w hw => hts w (List.mem_cons_of_mem _ hw), hS, B.notSynchronized⟩ B.returns va_S.rf hl
section zj_rows
variable {p : Program} {l : Launch} {e : Env} {R : Room} {s : State} {m : MethodId} {args : Array Value} {below : List Frame} {meth : Method} {c : Code} {H : Heap} {locs : List Loc} {cells slots : Nat} {Q : State → Prop}
variable {cc : ByteArray} {pc nL j : Nat} {ls : Array Slot} {rest st : List Value} {K V : Nat → Nat} {fv : Value} {own : String} {y : MethodName} {b : ByteArray} {n : Nat} {ret : Option FieldType} {A : Nat → Prop}
/-- what a callee of the JDK finds -/
theorem zj_pre (hA : ∀ q : Nat, s.heap.size ≤ q → A q) (hX : z_Sx K V fv A s s.heap) (hS : va_S A s.heap H locs) (av : List Value) : PreS s H (va_Pc av (fun U => U.heap.size = H.size ∧ z_Sx K V fv (fun q => H.size ≤ q) U U.heap)) av := by
  refine ⟨fun a U g mk q => ?_, fun U hU hW => ⟨rfl, by rw [hU], ?_⟩⟩
  · obtain ⟨q0, q1, q2⟩ := q
    exact ⟨q0, q1, q2.calling⟩
  · rw [hU]
    exact ((hX.kept hS.2.1).warm hW).narrow (fun q h => hA q (Nat.le_trans hS.1 h))
theorem zj_runV {As : List Value} {index i k : Nat} {Qc : Array Value → State → Outcome → State → Prop} (hx : p.tables.exec = Jvm.exec) (hb : c.code = cc) (hml : c.maxLocals = nL) (hown : s.vm.findClass own = some m.cls) (hts : ∀ w ∈ z_wl, w.before args s = true) (hA : ∀ q : Nat, s.heap.size ≤ q → A q) (hX : z_Sx K V fv A s s.heap) (hS : va_S A s.heap H locs) (hls : ls.size = nL) (hi : i < 3)
    (hM : Met l y (.code y b n ret :: z_wl) (z_rm j) (va_Pc (.ref (K i) :: As) (fun U => U.heap.size = H.size ∧ z_Sx K V fv (fun q => H.size ≤ q) U U.heap)) Qc 0 0 (fun q => H.size ≤ q)) (cv : z_CV own index y b n ret k) (hy : y.cls = "java/lang/String") (hlen : As.length = k) (hst : st = As.reverse ++ .ref (K i) :: rest) (hR : (z_rm j).frames + 1 ≤ R.frames ∧ 8 + (n + 11) + (z_rm j).locals ≤ R.locals) (hcs : cells ≤ R.cells ∧ slots ≤ R.slots) (hrest : (rest.map fun v => v.category).sum ≤ 8) (hdg : decode cc pc = .ok (.invokevirtual index, 3)) :
    va_Run p l e R s m args below meth c H locs cells slots 0 0 (F0 m pc ls st) rest (Qc (Value.ref (K i) :: As).toArray) (fun q => H.size ≤ q) := by
  obtain ⟨⟨w1, w2, w3, w4, w5⟩, ⟨d1, d2, d3⟩, hn⟩ := cv
  have hp := zj_pre hA hX hS (Value.ref (K i) :: As)
  have hrv := vk_recv hX.1 hi hS
  rw [← hy] at hrv
  refine va_runV (bytes := b) (maxL := n) (ret := ret) (C := y.cls) ⟨hx, hb, hml, hown, hts⟩ hM (cwV k hts (z_gin (fun w h => h) ?_) rfl rfl rfl ⟨rfl, d1, d2, d3⟩ hR) ⟨hp.1, hrv, hp.2⟩ rfl hlen hls hst (lv_room hrest) hdg ⟨hcs.1, hcs.2⟩
  refine z_wsin w5 (fun w hw => ?_)
  simp only [List.mem_cons, List.not_mem_nil, or_false] at hw
  rcases hw with rfl | rfl | rfl | rfl
  · exact w1
  · exact w2
  · exact w3
  · exact w4
theorem zj_runS {As : List Value} {index k : Nat} {Qc : Array Value → State → Outcome → State → Prop} (hx : p.tables.exec = Jvm.exec) (hb : c.code = cc) (hml : c.maxLocals = nL) (hown : s.vm.findClass own = some m.cls) (hts : ∀ w ∈ z_wl, w.before args s = true) (hA : ∀ q : Nat, s.heap.size ≤ q → A q) (hX : z_Sx K V fv A s s.heap) (hS : va_S A s.heap H locs) (hls : ls.size = nL)
    (hM : Met l y (.code y b n ret :: z_wl) (z_rm j) (va_Pc As (fun U => U.heap.size = H.size ∧ z_Sx K V fv (fun q => H.size ≤ q) U U.heap)) Qc 0 0 (fun q => H.size ≤ q)) (cv : z_CS own index y b n ret k) (hlen : As.length = k) (hst : st = As.reverse ++ rest) (hR : (z_rm j).frames + 1 ≤ R.frames ∧ 8 + (n + 11) + (z_rm j).locals ≤ R.locals) (hcs : cells ≤ R.cells ∧ slots ≤ R.slots) (hrest : (rest.map fun v => v.category).sum ≤ 8) (hdg : decode cc pc = .ok (.invokestatic index, 3)) :
    va_Run p l e R s m args below meth c H locs cells slots 0 0 (F0 m pc ls st) rest (Qc As.toArray) (fun q => H.size ≤ q) := by
  obtain ⟨⟨w1, w2, w4, w5⟩, ⟨d1, d2, d3⟩, hn⟩ := cv
  have hp := zj_pre hA hX hS As
  refine va_runS (bytes := b) (maxL := n) (ret := ret) ⟨hx, hb, hml, hown, hts⟩ hM ⟨callB_of k hts (z_gin (fun w h => h) ?_) rfl rfl rfl (hts _ w4) (hts _ w1) ⟨d1, d2, d3⟩ hR, hts _ w2⟩ hp rfl hlen hls hst (lv_room hrest) hdg ⟨hcs.1, hcs.2⟩
  exact z_wsin (ws := []) w5 (fun w hw => by cases hw)
theorem zj_goI {rv : Int32} {a : Array Value} (hA : ∀ q : Nat, s.heap.size ≤ q → A q) (hS : va_S A s.heap H locs) (hr : va_Run p l e R s m args below meth c H locs cells slots 0 0 (F0 m pc ls st) rest (va_Qi (S := Unit) (fun r _ => r = rv) (fun _ _ => True) (fun q => H.size ≤ q) a) (fun q => H.size ≤ q))
    (kk : ∀ (H1 : Heap) (locs1 : List Loc), (∀ q : Nat, q < H.size → H1[q]? = H[q]?) → va_S A s.heap H1 locs1 → W p l e R s m args below meth c H1 locs1 cells slots Q (F0 m (pc + 3) ls (.int rv :: rest))) : W p l e R s m args below meth c H locs cells slots Q (F0 m pc ls st) := by
  refine va_calli hr hS (fun q _ h => hA q (Nat.le_trans hS.1 h)) (fun q h => hA q (Nat.le_trans hS.1 h)) (fun r u t H1 locs1 ht _ hw hB hz hk hS1 => ?_)
  subst hw
  exact kk H1 locs1 (fun q hq => hk q hq (by omega)) hS1
theorem zj_goV {a : Array Value} (hA : ∀ q : Nat, s.heap.size ≤ q → A q) (hS : va_S A s.heap H locs) (hr : va_Run p l e R s m args below meth c H locs cells slots 0 0 (F0 m pc ls st) rest (va_Qv (S := Unit) (fun _ => True) (fun _ _ => True) (fun q => H.size ≤ q) a) (fun q => H.size ≤ q))
    (kk : ∀ (H1 : Heap) (locs1 : List Loc), (∀ q : Nat, q < H.size → H1[q]? = H[q]?) → va_S A s.heap H1 locs1 → W p l e R s m args below meth c H1 locs1 cells slots Q (F0 m (pc + 3) ls rest)) : W p l e R s m args below meth c H locs cells slots Q (F0 m pc ls st) := by
  refine va_callv hr hS (fun q _ h => hA q (Nat.le_trans hS.1 h)) (fun q h => hA q (Nat.le_trans hS.1 h)) (fun u t H1 locs1 ht _ hw hB hz hk hS1 => ?_)
  exact kk H1 locs1 (fun q hq => hk q hq (by omega)) hS1
theorem zj_ret {vr rv : Int32} {ty : FieldType} (C : zj_C K V fv own cc nL p s m args meth c) (hr : meth.sig.returnType = some ty) (hn : narrow ty (.int vr) = .int vr) (hS : va_S (z_nw s) s.heap H locs) (he : vr = rv) (hdg : decode cc pc = .ok (.ireturn, 1)) : W p l e R s m args below meth c H locs 0 0 (MQ below (va_Qi (S := Unit) (fun r _ => r = rv) (fun _ _ => True) (z_nw s)) args s 0 0 (z_nw s)) (F0 m pc ls [.int vr]) := by
  subst he
  exact W.zret C.1 C.2.1 hr hn (fun t ht _ => ⟨⟨_, (), rfl, rfl, trivial⟩, hS.F ht⟩) hS.2.2 hdg C.2.2.2.2.2.2
end zj_rows
theorem zcV_RJ0_335 : z_CV RJ0 335 yJ0_coder_7d493 cJ0_coder_7d493 1 (some .byte) 0 := ⟨⟨z_k419, z_k420, z_k421, z_k11, z_k422⟩, by decide +kernel, by decide⟩
theorem zcV_RJ0_492 : z_CV RJ0 492 yJ0_isLatin1_aae02 cJ0_isLatin1_aae02 1 (some .boolean) 0 := ⟨⟨z_k429, z_k430, z_k431, z_k11, z_k432⟩, by decide +kernel, by decide⟩
theorem zcS_RJ0_495 : z_CS RJ0 495 yJ1_charAt_3b067 cJ1_charAt_3b067 2 (some .char) 2 := ⟨⟨z_k433, z_k434, z_k12, z_k435⟩, by decide +kernel, by decide⟩
theorem zcS_RJ1_9 : z_CS RJ1 9 yJ0_checkIndex_df160 cJ0_checkIndex_df160 2 none 2 := ⟨⟨z_k436, z_k437, z_k11, z_k438⟩, by decide +kernel, by decide⟩
theorem zcS_RJ0_1059 : z_CS RJ0 1059 yJ3_checkIndex_8e157 cJ3_checkIndex_8e157 3 (some .int) 3 := ⟨⟨z_k441, z_k442, z_k13, z_k443⟩, by decide +kernel, by decide⟩
theorem zcV_RX6_92 : z_CV RX6 92 yJ0_length_8abf5 cJ0_length_8abf5 1 (some .int) 0 := ⟨⟨z_k415, z_k416, z_k417, z_k11, z_k418⟩, by decide +kernel, by decide⟩
set_option maxHeartbeats 4000000 in
set_option maxRecDepth 20000 in
theorem cJ_coder (l : Launch) (K V : Nat → Nat) (fv : Value) {i : Nat} (hi : i < 3) : z_J l K V fv yJ0_coder_7d493 cJ0_coder_7d493 1 (some .byte) (z_rm 1) 0 [.ref (K i)] := by
  refine zj_enter (by decide) (Nat.le_of_ble_eq_true rfl) rfl (fun p e s m below meth c ls C hr hS hl => ?_)
  obtain ⟨hx, hb, hml, hown, hts, hX, hlk⟩ := id C
  refine va_gets hx hb hX.2.2.1 hS hown (hts _ z_k423) (fun _ h => h) dJ0_coder_7d493_0 ?_
  refine lv_if_eq (tgt := 13) hx hb dJ0_coder_7d493_3 (by decide) (fun hc => absurd hc (by decide)) (fun _ => ?_)
  refine lv_aload_n hx hb dJ0_coder_7d493_6 rfl (lv_at hl 0 rfl) ?_
  refine vk_getf hx hb (hX.1.1 i hi).2.1 hS hown (hts _ z_k1316) (fun _ h => h) dJ0_coder_7d493_7 ?_
  refine lv_goto (tgt := 14) hx hb dJ0_coder_7d493_10 (by decide) ?_
  exact zj_ret C hr (by decide +kernel) hS rfl dJ0_coder_7d493_14
set_option maxHeartbeats 4000000 in
set_option maxRecDepth 20000 in
theorem cJ_isLatin1 (l : Launch) (K V : Nat → Nat) (fv : Value) {i : Nat} (hi : i < 3) : z_J l K V fv yJ0_isLatin1_aae02 cJ0_isLatin1_aae02 1 (some .boolean) (z_rm 1) 1 [.ref (K i)] := by
  refine zj_enter (by decide) (Nat.le_of_ble_eq_true rfl) rfl (fun p e s m below meth c ls C hr hS hl => ?_)
  obtain ⟨hx, hb, hml, hown, hts, hX, hlk⟩ := id C
  refine va_gets hx hb hX.2.2.1 hS hown (hts _ z_k423) (fun _ h => h) dJ0_isLatin1_aae02_0 ?_
  refine lv_if_eq (tgt := 17) hx hb dJ0_isLatin1_aae02_3 (by decide) (fun hc => absurd hc (by decide)) (fun _ => ?_)
  refine lv_aload_n hx hb dJ0_isLatin1_aae02_6 rfl (lv_at hl 0 rfl) ?_
  refine vk_getf hx hb (hX.1.1 i hi).2.1 hS hown (hts _ z_k1316) (fun _ h => h) dJ0_isLatin1_aae02_7 ?_
  refine lv_if_ne (tgt := 17) hx hb dJ0_isLatin1_aae02_10 (by decide) (fun hc => absurd rfl hc) (fun _ => ?_)
  refine lv_iconst (v := 1) hx hb dJ0_isLatin1_aae02_13 (by decide) ?_
  refine lv_goto (tgt := 18) hx hb dJ0_isLatin1_aae02_14 (by decide) ?_
  exact zj_ret C hr (by decide +kernel) hS rfl dJ0_isLatin1_aae02_18
set_option maxHeartbeats 4000000 in
set_option maxRecDepth 20000 in
theorem cJ_length (l : Launch) (K V : Nat → Nat) (fv : Value) {i : Nat} (hi : i < 3) : z_J l K V fv yJ0_length_8abf5 cJ0_length_8abf5 1 (some .int) (z_rm 2) (nI (z_len.getD i 0)) [.ref (K i)] := by
  refine zj_enter (by decide) (Nat.le_of_ble_eq_true rfl) rfl (fun p e s m below meth c ls C hr hS hl => ?_)
  obtain ⟨hx, hb, hml, hown, hts, hX, hlk⟩ := id C
  refine lv_aload_n hx hb dJ0_length_8abf5_0 rfl (lv_at hl 0 rfl) ?_
  refine vk_getf hx hb (hX.1.1 i hi).2.2.1 hS hown (hts _ z_k1315) (fun _ h => h) dJ0_length_8abf5_1 ?_
  refine va_tlen (v := nI (z_len.getD i 0)) hx hb (hX.1.1 i hi).2.2.2 hS rfl dJ0_length_8abf5_4 ?_
  refine lv_aload_n hx hb dJ0_length_8abf5_5 rfl (lv_at hl 0 rfl) ?_
  refine zj_goI (fun _ h => h) hS (zj_runV hx hb hml hown hts (fun _ h => h) hX hS hl.1 hi (cJ_coder l K V fv hi _) zcV_RJ0_335 rfl rfl rfl ⟨(Nat.le_of_ble_eq_true rfl), (Nat.le_of_ble_eq_true rfl)⟩ ⟨(Nat.le_of_ble_eq_true rfl), (Nat.le_of_ble_eq_true rfl)⟩ (Nat.le_of_ble_eq_true rfl) dJ0_length_8abf5_6) (fun H1 locs1 _ hS => ?_)
  refine lv_ishr hx hb dJ0_length_8abf5_9 ?_
  refine zj_ret C hr rfl hS ?_ dJ0_length_8abf5_10
  rcases (show i = 0 ∨ i = 1 ∨ i = 2 by omega) with rfl | rfl | rfl <;> decide +kernel
set_option maxHeartbeats 4000000 in
set_option maxRecDepth 20000 in
theorem cJ_pre (l : Launch) (K V : Nat → Nat) (fv : Value) (hfv : fv = .null ∨ ∃ t : Nat, fv = .ref t) {x1 x2 : Int32} (h1 : ¬ x1 < 0) (h2 : x1 < x2) : z_J l K V fv yJ3_checkIndex_8e157 cJ3_checkIndex_8e157 3 (some .int) (z_rm 1) x1 [.int x1, .int x2, fv] := by
  have hc1 : (lg_sl [.int x1, .int x2, fv]).length ≤ 3 := by rcases hfv with rfl | ⟨t, rfl⟩ <;> exact (Nat.le_of_ble_eq_true rfl)
  have hc2 : lv_args 0 [.int x1, .int x2, fv] = [(0, .int x1), (1, .int x2), (2, fv)] := rfl
  refine zj_enter (by decide) hc1 hc2 (fun p e s m below meth c ls C hr hS hl => ?_)
  obtain ⟨hx, hb, hml, hown, hts, hX, hlk⟩ := id C
  refine lv_iload_n hx hb dJ3_checkIndex_8e157_0 rfl (lv_at hl 0 rfl) ?_
  refine lv_if_lt (tgt := 9) hx hb dJ3_checkIndex_8e157_1 (by decide) (fun hc => absurd hc h1) (fun _ => ?_)
  refine lv_iload_n hx hb dJ3_checkIndex_8e157_4 rfl (lv_at hl 0 rfl) ?_
  refine lv_iload_n hx hb dJ3_checkIndex_8e157_5 rfl (lv_at hl 1 rfl) ?_
  refine lv_icmp_lt (tgt := 16) hx hb dJ3_checkIndex_8e157_6 (by decide) (fun _ => ?_) (fun hc => absurd h2 hc)
  refine lv_iload_n hx hb dJ3_checkIndex_8e157_16 rfl (lv_at hl 0 rfl) ?_
  exact zj_ret C hr rfl hS rfl dJ3_checkIndex_8e157_17
set_option maxHeartbeats 4000000 in
set_option maxRecDepth 20000 in
theorem cJ_chk (l : Launch) (K V : Nat → Nat) (fv : Value) {x1 x2 : Int32} (h1 : ¬ x1 < 0) (h2 : x1 < x2) : z_Jv l K V fv yJ0_checkIndex_df160 cJ0_checkIndex_df160 2 (z_rm 2) [.int x1, .int x2] := by
  refine zj_enterv (by decide) (Nat.le_of_ble_eq_true rfl) rfl (fun p e s m below meth c ls C hr hS hl => ?_)
  obtain ⟨hx, hb, hml, hown, hts, hX, hlk⟩ := id C
  have hl : lv_has ls 2 [(0, .int x1), (1, .int x2)] := hl
  refine lv_iload_n hx hb dJ0_checkIndex_df160_0 rfl (lv_at hl 0 rfl) ?_
  refine lv_iload_n hx hb dJ0_checkIndex_df160_1 rfl (lv_at hl 1 rfl) ?_
  refine va_gets hx hb hX.2.2.2.1 hS hown (hts _ z_k439) (fun _ h => h) dJ0_checkIndex_df160_2 ?_
  refine zj_goI (fun _ h => h) hS (zj_runS (As := [.int x1, .int x2, fv]) (rest := []) hx hb hml hown hts (fun _ h => h) hX hS hl.1 (cJ_pre l K V fv hX.2.2.2.2 h1 h2 _) zcS_RJ0_1059 rfl rfl ⟨(Nat.le_of_ble_eq_true rfl), (Nat.le_of_ble_eq_true rfl)⟩ ⟨(Nat.le_of_ble_eq_true rfl), (Nat.le_of_ble_eq_true rfl)⟩ (Nat.le_of_ble_eq_true rfl) dJ0_checkIndex_df160_5) (fun H1 locs1 _ hS => ?_)
  refine lv_pop hx hb dJ0_checkIndex_df160_8 rfl ?_
  exact W.vret hx hb hr (fun t ht _ => ⟨⟨(), rfl, trivial, trivial⟩, hS.F ht⟩) hS.2.2 dJ0_checkIndex_df160_9 hlk
set_option maxHeartbeats 4000000 in
set_option maxRecDepth 20000 in
theorem cJ_l1char (l : Launch) (K V : Nat → Nat) (fv : Value) {i q : Nat} (hi : i < 3) (hq : q < z_len.getD i 0) : z_J l K V fv yJ1_charAt_3b067 cJ1_charAt_3b067 2 (some .char) (z_rm 3) (z_ch i q) [.ref (V i), .int (nI q)] := by
  refine zj_enter (by decide) (Nat.le_of_ble_eq_true rfl) rfl (fun p e s m below meth c ls C hr hS hl => ?_)
  obtain ⟨hx, hb, hml, hown, hts, hX, hlk⟩ := id C
  have hl : lv_has ls 2 [(0, .ref (V i)), (1, .int (nI q))] := hl
  have hq6 : q < 6 := by
    rcases (show i = 0 ∨ i = 1 ∨ i = 2 by omega) with rfl | rfl | rfl
    · exact hq
    · exact hq
    · exact Nat.lt_of_lt_of_le hq (by decide)
  have hn6 : z_len.getD i 0 ≤ 6 := by rcases (show i = 0 ∨ i = 1 ∨ i = 2 by omega) with rfl | rfl | rfl <;> decide
  refine lv_iload_n hx hb dJ1_charAt_3b067_0 rfl (lv_at hl 1 rfl) ?_
  refine lv_aload_n hx hb dJ1_charAt_3b067_1 rfl (lv_at hl 0 rfl) ?_
  refine va_tlen (v := nI (z_len.getD i 0)) hx hb (hX.1.1 i hi).2.2.2 hS rfl dJ1_charAt_3b067_2 ?_
  refine zj_goV (fun _ h => h) hS (zj_runS hx hb hml hown hts (fun _ h => h) hX hS hl.1 (cJ_chk l K V fv (nI_pos (by omega)) (nI_lt hq (by omega)) _) zcS_RJ1_9 rfl rfl ⟨(Nat.le_of_ble_eq_true rfl), (Nat.le_of_ble_eq_true rfl)⟩ ⟨(Nat.le_of_ble_eq_true rfl), (Nat.le_of_ble_eq_true rfl)⟩ (Nat.le_of_ble_eq_true rfl) dJ1_charAt_3b067_3) (fun H1 locs1 _ hS => ?_)
  refine lv_aload_n hx hb dJ1_charAt_3b067_6 rfl (lv_at hl 0 rfl) ?_
  refine lv_iload_n hx hb dJ1_charAt_3b067_7 rfl (lv_at hl 1 rfl) ?_
  refine va_tb (v := .int (z_ch i q)) hx hb (hX.1.1 i hi).2.2.2 hS (vp_in_nI hq (by omega)) (by show Value.int ((z_byt.getD i []).getD (nI q).toNatClampNeg 0) = _; rw [nI_clamp (by omega)]; rfl) dJ1_charAt_3b067_8 ?_
  refine lv_sipush (v := 255) hx hb dJ1_charAt_3b067_9 (by decide) ?_
  refine lv_iand hx hb dJ1_charAt_3b067_12 ?_
  have hb8 : ((z_ch i q &&& 255).toUInt32 % 65536).toInt32 = z_ch i q ∧ narrow .char (.int (z_ch i q)) = .int (z_ch i q) := by
    rcases (show i = 0 ∨ i = 1 ∨ i = 2 by omega) with rfl | rfl | rfl <;> rcases (show q = 0 ∨ q = 1 ∨ q = 2 ∨ q = 3 ∨ q = 4 ∨ q = 5 by omega) with rfl | rfl | rfl | rfl | rfl | rfl <;> exact ⟨by decide +kernel, by decide +kernel⟩
  refine lv_i2c (v := z_ch i q) hx hb dJ1_charAt_3b067_13 hb8.1 ?_
  exact zj_ret C hr hb8.2 hS rfl dJ1_charAt_3b067_14
set_option maxHeartbeats 4000000 in
set_option maxRecDepth 20000 in
theorem cJ_charAt (l : Launch) (K V : Nat → Nat) (fv : Value) {i q : Nat} (hi : i < 3) (hq : q < z_len.getD i 0) : z_J l K V fv yJ0_charAt_5068e cJ0_charAt_5068e 2 (some .char) (z_rm 4) (z_ch i q) [.ref (K i), .int (nI q)] := by
  refine zj_enter (by decide) (Nat.le_of_ble_eq_true rfl) rfl (fun p e s m below meth c ls C hr hS hl => ?_)
  obtain ⟨hx, hb, hml, hown, hts, hX, hlk⟩ := id C
  have hl : lv_has ls 2 [(0, .ref (K i)), (1, .int (nI q))] := hl
  have hq6 : q < 6 := by
    rcases (show i = 0 ∨ i = 1 ∨ i = 2 by omega) with rfl | rfl | rfl
    · exact hq
    · exact hq
    · exact Nat.lt_of_lt_of_le hq (by decide)
  have hb8 : narrow .char (.int (z_ch i q)) = .int (z_ch i q) := by
    rcases (show i = 0 ∨ i = 1 ∨ i = 2 by omega) with rfl | rfl | rfl <;> rcases (show q = 0 ∨ q = 1 ∨ q = 2 ∨ q = 3 ∨ q = 4 ∨ q = 5 by omega) with rfl | rfl | rfl | rfl | rfl | rfl <;> decide +kernel
  refine lv_aload_n hx hb dJ0_charAt_5068e_0 rfl (lv_at hl 0 rfl) ?_
  refine zj_goI (fun _ h => h) hS (zj_runV hx hb hml hown hts (fun _ h => h) hX hS hl.1 hi (cJ_isLatin1 l K V fv hi _) zcV_RJ0_492 rfl rfl rfl ⟨(Nat.le_of_ble_eq_true rfl), (Nat.le_of_ble_eq_true rfl)⟩ ⟨(Nat.le_of_ble_eq_true rfl), (Nat.le_of_ble_eq_true rfl)⟩ (Nat.le_of_ble_eq_true rfl) dJ0_charAt_5068e_1) (fun H1 locs1 _ hS => ?_)
  refine lv_if_eq (tgt := 16) hx hb dJ0_charAt_5068e_4 (by decide) (fun hc => absurd hc (by decide)) (fun _ => ?_)
  refine lv_aload_n hx hb dJ0_charAt_5068e_7 rfl (lv_at hl 0 rfl) ?_
  refine vk_getf hx hb (hX.1.1 i hi).2.2.1 hS hown (hts _ z_k1315) (fun _ h => h) dJ0_charAt_5068e_8 ?_
  refine lv_iload_n hx hb dJ0_charAt_5068e_11 rfl (lv_at hl 1 rfl) ?_
  refine zj_goI (fun _ h => h) hS (zj_runS hx hb hml hown hts (fun _ h => h) hX hS hl.1 (cJ_l1char l K V fv hi hq _) zcS_RJ0_495 rfl rfl ⟨(Nat.le_of_ble_eq_true rfl), (Nat.le_of_ble_eq_true rfl)⟩ ⟨(Nat.le_of_ble_eq_true rfl), (Nat.le_of_ble_eq_true rfl)⟩ (Nat.le_of_ble_eq_true rfl) dJ0_charAt_5068e_12) (fun H2 locs2 _ hS => ?_)
  exact zj_ret C hr hb8 hS rfl dJ0_charAt_5068e_15
