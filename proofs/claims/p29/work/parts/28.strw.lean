theorem zj_keep {E : zE} {A : Nat → Prop} {s : State} {σ : zS} {H H1 : Heap} {locs locs1 : List Loc} (hs : z_H E A s σ H locs) (hk : ∀ q : Nat, q < H.size → H1[q]? = H[q]?) (hS : va_S A s.heap H1 locs1) : z_H E A s σ H1 locs1 := ⟨hs.1.kept (fun k q h => hk q.1 (hs.1 k q h).lt), hS⟩
def z_TS (l : Launch) (E : zE) (K V : Nat → Nat) (fv : Value) (y : MethodName) (b : ByteArray) (n : Nat) (ret : Option FieldType) (rm : Room) (Q : (Nat → Prop) → Array Value → State → Outcome → State → Prop) (av : List Value) (σ : zS) : Prop :=
  ∀ sz : Nat, Met l y (.code y b n ret :: z_wl) rm (va_Pc av (fun U => U.heap.size = sz ∧ va_P E.1 z_cl (z_ws E σ) U.heap ∧ z_K E U ∧ va_D (fun _ => True) (z_ws E σ) ∧ z_Sx K V fv (z_A E sz) U U.heap)) (Q (z_A E sz)) 0 0 (z_A E sz)
theorem z_enterS {l : Launch} {E : zE} {K V : Nat → Nat} {fv : Value} {y : MethodName} {b : ByteArray} {n : Nat} {ret : Option FieldType} {rm : Room} {Q : (Nat → Prop) → Array Value → State → Outcome → State → Prop} {av : List Value} {σ : zS} {lv : List (Nat × Value)} (hy : plainName y.cls = true) (hlen : (lg_sl av).length ≤ n) (hlv : lv_args 0 av = lv)
    (body : ∀ (p : Program) (e : Env) (s : State) (m : MethodId) (below : List Frame) (meth : Method) (c : Code) (A : Nat → Prop) (ls : Array Slot), z_C E y.cls b n A p s m av.toArray meth c → z_Sx K V fv A s s.heap → meth.sig.returnType = ret → z_H E A s σ s.heap [] → lv_has ls n lv → W p l e rm s m av.toArray below meth c s.heap [] 0 0 (MQ below (Q A) av.toArray s 0 0 A) (F0 m 0 ls [])) : z_TS l E K V fv y b n ret rm Q av σ := by
  intro sz
  refine Met.ofW (cc := b) (maxL := n) (ret := ret) hy rfl ?_
  intro p e s m args below meth c s₁ B hml hv
  obtain ⟨rfl, hsz, hP, hK, hD0, hX⟩ := hv
  have hts := atoms_spec (ws := .code y b n ret :: z_wl) B.pre
  have hown : s.vm.findClass y.cls = some m.cls := findClass_of_methodNamed B.named
  subst hsz
  have hl := lv_entry av (n := n) hlen
  rw [lg_entry_eq]
  rw [hlv] at hl
  exact body p e s m below meth c (z_A E s.heap.size) _ ⟨B.exec, B.bytes, hml, hown, fun w hw => hts w (List.mem_cons_of_mem _ hw), hK, fun τ => z_D_A (z_Dall hD0 τ) _, fun q h => Or.inr h, B.notSynchronized⟩ hX B.returns ⟨hP, va_S.rf⟩ hl
section zs_rows
variable {p : Program} {l : Launch} {e : Env} {R : Room} {s : State} {m : MethodId} {args : Array Value} {below : List Frame} {meth : Method} {c : Code} {H : Heap} {locs : List Loc} {cells slots : Nat} {Q : State → Prop}
variable {cc : ByteArray} {pc nL j lev : Nat} {ls : Array Slot} {rest st : List Value} {E : zE} {σ τ : zS} {A : Nat → Prop} {K V : Nat → Nat} {fv : Value} {own : String} {y : MethodName} {b : ByteArray} {n : Nat} {ret : Option FieldType}
theorem z_strlen (C : z_C E own cc nL A p s m args meth c) (hX : z_Sx K V fv A s s.heap) (hs : z_H E A s σ H locs) (hls : ls.size = nL) {i index : Nat} (hi : i < 3) (cv : z_CV own index yJ0_length_8abf5 cJ0_length_8abf5 1 (some .int) 0) (hlev : 2 < lev) (hrest : (rest.map fun v => v.category).sum ≤ 8) (hdg : decode cc pc = .ok (.invokevirtual index, 3))
    (kk : ∀ (H : Heap) (locs : List Loc), z_H E A s σ H locs → W p l e (z_rm lev) s m args below meth c H locs 0 0 Q (F0 m (pc + 3) ls (.int (nI (z_len.getD i 0)) :: rest))) : W p l e (z_rm lev) s m args below meth c H locs 0 0 Q (F0 m pc ls (.ref (K i) :: rest)) :=
  zj_goI C.2.2.2.2.2.2.2.1 hs.2 (zj_runV C.1 C.2.1 C.2.2.1 C.2.2.2.1 C.2.2.2.2.1 C.2.2.2.2.2.2.2.1 hX hs.2 hls hi (cJ_length l K V fv hi H.size) cv rfl rfl rfl (z_rmok hlev (by decide)) ⟨Nat.le_refl _, Nat.le_refl _⟩ hrest hdg) (fun H1 locs1 hk hS => kk H1 locs1 (zj_keep hs hk hS))
theorem z_in_nI {x : Int32} {n : Nat} (g : z_in x n = true) : x = nI x.toNatClampNeg := by
  simp only [z_in, Bool.and_eq_true, decide_eq_true_eq] at g
  obtain ⟨j, hj, e1⟩ := nI_of g.1
  rw [e1, nI_clamp hj]
theorem z_strchar (C : z_C E own cc nL A p s m args meth c) (hX : z_Sx K V fv A s s.heap) (hs : z_H E A s σ H locs) (hls : ls.size = nL) {i index : Nat} {x1 : Int32} (hi : i < 3) (g : z_in x1 (z_len.getD i 0) = true) (cv : z_CV own index yJ0_charAt_5068e cJ0_charAt_5068e 2 (some .char) 1) (hlev : 4 < lev) (hrest : (rest.map fun v => v.category).sum ≤ 8) (hdg : decode cc pc = .ok (.invokevirtual index, 3))
    (kk : ∀ (H : Heap) (locs : List Loc), z_H E A s σ H locs → W p l e (z_rm lev) s m args below meth c H locs 0 0 Q (F0 m (pc + 3) ls (.int (z_ch i x1.toNatClampNeg) :: rest))) : W p l e (z_rm lev) s m args below meth c H locs 0 0 Q (F0 m pc ls (.int x1 :: .ref (K i) :: rest)) := by
  have e1 := z_in_nI g
  have hq := z_in_lt g
  refine W.eq (g2 := F0 m pc ls (.int (nI x1.toNatClampNeg) :: .ref (K i) :: rest)) (by rw [← e1]) ?_
  exact zj_goI C.2.2.2.2.2.2.2.1 hs.2 (zj_runV (As := [.int (nI x1.toNatClampNeg)]) C.1 C.2.1 C.2.2.1 C.2.2.2.1 C.2.2.2.2.1 C.2.2.2.2.2.2.2.1 hX hs.2 hls hi (cJ_charAt l K V fv hi hq H.size) cv rfl rfl rfl (z_rmok hlev (by decide)) ⟨Nat.le_refl _, Nat.le_refl _⟩ hrest hdg) (fun H1 locs1 hk hS => kk H1 locs1 (zj_keep hs hk hS))
theorem zr_runVS {Qx : (Nat → Prop) → Array Value → State → Outcome → State → Prop} {As : List Value} {a : zJ} {ci N index k : Nat} {T : u_T} {fs : List Value} (C : z_C E own cc nL A p s m args meth c) (hX : z_Sx K V fv A s s.heap) (hs : z_H E A s σ H locs) (hls : ls.size = nL) (hM : z_TS l E K V fv y b n ret (z_rm j) Qx (.ref (z_ad E a) :: As) σ) (cv : z_CV own index y b n ret k) (ha : a ∈ z_ids E) (hce : z_cell E (σ.1 a) (σ.2 a) a = .inr (ci, fs)) (hc : z_cl[ci]? = some (y.cls, T, N)) (hlen : As.length = k) (hst : st = As.reverse ++ .ref (z_ad E a) :: rest) (hR : (z_rm j).frames + 1 ≤ R.frames ∧ 8 + (n + 11) + (z_rm j).locals ≤ R.locals) (hcs : cells ≤ R.cells ∧ slots ≤ R.slots) (hrest : (rest.map fun v => v.category).sum ≤ 8) (hdg : decode cc pc = .ok (.invokevirtual index, 3)) :
    va_Run p l e R s m args below meth c H locs cells slots 0 0 (F0 m pc ls st) rest (Qx (z_A E H.size) (Value.ref (z_ad E a) :: As).toArray) (z_A E H.size) := by
  obtain ⟨⟨w1, w2, w3, w4, w5⟩, ⟨d1, d2, d3⟩, hn⟩ := cv
  have hp : PreS s H (va_Pc (Value.ref (z_ad E a) :: As) (fun U => U.heap.size = H.size ∧ va_P E.1 z_cl (z_ws E σ) U.heap ∧ z_K E U ∧ va_D (fun _ => True) (z_ws E σ) ∧ z_Sx K V fv (z_A E H.size) U U.heap)) (Value.ref (z_ad E a) :: As) := by
    have h0 := z_preS C hs (Value.ref (z_ad E a) :: As)
    refine ⟨fun a U g mk q => ?_, fun U hU hW => ?_⟩
    · obtain ⟨q0, q1, qP, qK, qD, qX⟩ := q
      exact ⟨q0, q1, qP, ⟨va_K.moved (u := U) (U := U.calling g mk a) (Vm.Alike.refl U.vm) qK.1, fun w hw => va_tabs (u := U) (U := U.calling g mk a) (z_nlT hw) rfl (qK.2 w hw)⟩, qD, qX.calling⟩
    · obtain ⟨e0, e1, e2, e3, e4⟩ := h0.2 U hU hW
      refine ⟨e0, e1, e2, e3, e4, ?_⟩
      rw [hU]
      exact ((hX.kept hs.2.2.1).warm hW).narrow (z_freeA C hs)
  obtain ⟨q0, -, he⟩ := z_at σ ha
  rw [hce] at he
  have hrv := va_recv C.2.2.2.2.2.1.1 hs.1 hc he
  refine va_runV (bytes := b) (maxL := n) (ret := ret) (C := y.cls) ⟨C.1, C.2.1, C.2.2.1, C.2.2.2.1, C.2.2.2.2.1⟩ (hM H.size) (cwV k C.2.2.2.2.1 (z_gin (fun w h => h) ?_) rfl rfl rfl ⟨rfl, d1, d2, d3⟩ hR) ⟨hp.1, hrv, hp.2⟩ rfl hlen hls hst (lv_room hrest) hdg ⟨hcs.1, hcs.2⟩
  refine z_wsin w5 (fun w hw => ?_)
  simp only [List.mem_cons, List.not_mem_nil, or_false] at hw
  rcases hw with rfl | rfl | rfl | rfl
  · exact w1
  · exact w2
  · exact w3
  · exact w4
end zs_rows
section z_walkss
variable {p : Program} {l : Launch} {e : Env} {s : State} {m : MethodId} {args : Array Value} {below : List Frame} {meth : Method} {c : Code} {E : zE} {A : Nat → Prop}

variable {K V : Nat → Nat} {fv : Value}
theorem zcV_RX6_96 : z_CV RX6 96 yJ0_charAt_5068e cJ0_charAt_5068e 2 (some .char) 1 := ⟨⟨z_k425, z_k426, z_k427, z_k11, z_k428⟩, by decide +kernel, by decide⟩
def fT_tokenIs_24 (g1 : Nat) : Nat → Int32 → Int32 → zS → Option (Int32 × zS)
  | 0, _, _, _ => none
  | n + 1, x2, x3, σ =>
    if x2 = 0 then
      (if z_b01 x2 = true then (
      some (x2, σ)) else none)
    else
      (if (nI (z_len.getD g1 0)) ≤ x3 then
        (if z_b01 x2 = true then (
        some (x2, σ)) else none)
      else
        (z_bd (fT_byteAt ((σ.1 (31, 0, 0) 8) + x3) σ) (fun r6 σ6 =>
        if z_in x3 (z_len.getD g1 0) = true then (
        if r6 = (z_ch g1 x3.toNatClampNeg) then
          (z_let (x3 + 1) (fun y10 =>
          fT_tokenIs_24 g1 n 1 y10 σ6))
        else
          (z_let (x3 + 1) (fun y9 =>
          fT_tokenIs_24 g1 n 0 y9 σ6))) else none)))
def fT_tokenIs (g1 : Nat) (σ : zS) : Option (Int32 × zS) :=
  if (nI (z_len.getD g1 0)) = ((σ.1 (31, 0, 0) 9) - (σ.1 (31, 0, 0) 8)) then
    (fT_tokenIs_24 g1 z_fu 1 0 σ)
  else
    (fT_tokenIs_24 g1 z_fu 0 0 σ)
set_option maxHeartbeats 4000000 in
set_option maxRecDepth 20000 in
theorem wT_tokenIs_24 {g1 : Nat} (C : z_C E RX6 cX6_tokenIs 4 A p s m args meth c) (hr : meth.sig.returnType = (some .boolean)) (hB : z_B E) (hg1 : g1 < 3) (hX : z_Sx K V fv A s s.heap) {ro : Int32} {σo : zS} (n : Nat) : ∀ (x2 : Int32) (x3 : Int32) (σ : zS) (H : Heap) (locs : List Loc) (ls : Array Slot), z_H E A s σ H locs → lv_has ls 4 [(0, .ref (z_ad E (31, 0, 0))), (1, .ref (K g1)), (2, .int x2), (3, .int x3)] → fT_tokenIs_24 g1 n x2 x3 σ = some (ro, σo) → W p l e (z_rm 6) s m args below meth c H locs 0 0 (MQ below (z_QI E ro σo A) args s 0 0 A) (F0 m 24 ls []) := by
  induction n with
  | zero =>
    intro x2 x3 σ H locs ls hs hl hf
    have hf : none = some (ro, σo) := hf
    cases hf
  | succ n ih =>
    intro x2 x3 σ H locs ls hs hl hf
    have hx := C.1
    have hb := C.2.1
    rw [fT_tokenIs_24.eq_2] at hf
    refine lv_iload_n hx hb dX6_tokenIs_24 rfl (lv_at hl 2 rfl) ?_
    refine lv_if_eq (tgt := 66) hx hb dX6_tokenIs_25 (by decide) (fun c2 => ?_) (fun c2 => ?_)
    · have hf := z_t hf c2
      refine lv_iload_n hx hb dX6_tokenIs_66 rfl (lv_at hl 2 rfl) ?_
      obtain ⟨g3, hf⟩ := z_gd hf
      exact z_retz C hr hs g3 hf dX6_tokenIs_67
    · have hf := z_f hf c2
      refine lv_iload_n hx hb dX6_tokenIs_28 rfl (lv_at hl 3 rfl) ?_
      refine lv_aload_n hx hb dX6_tokenIs_29 rfl (lv_at hl 1 rfl) ?_
      refine z_strlen C hX hs hl.1 hg1 zcV_RX6_92 (by decide) (Nat.le_of_ble_eq_true rfl) dX6_tokenIs_30 (fun H locs hs => ?_)
      refine lv_icmp_ge (tgt := 66) hx hb dX6_tokenIs_33 (by decide) (fun c4 => ?_) (fun c4 => ?_)
      · have hf := z_t hf c4
        refine lv_iload_n hx hb dX6_tokenIs_66 rfl (lv_at hl 2 rfl) ?_
        obtain ⟨g5, hf⟩ := z_gd hf
        exact z_retz C hr hs g5 hf dX6_tokenIs_67
      · have hf := z_f hf c4
        refine lv_aload_n hx hb dX6_tokenIs_36 rfl (lv_at hl 0 rfl) ?_
        refine lv_aload_n hx hb dX6_tokenIs_37 rfl (lv_at hl 0 rfl) ?_
        refine zg_T_tokenAt C hs (hB 31 (by decide) (by decide)) z_k45 dX6_tokenIs_38 ?_
        refine lv_iload_n hx hb dX6_tokenIs_41 rfl (lv_at hl 3 rfl) ?_
        refine lv_iadd hx hb dX6_tokenIs_42 ?_
        obtain ⟨r6, σ6, h_6, hf⟩ := z_bds hf
        refine z_goI C hs (z_runV C hs hl.1 (cT_byteAt l E hB h_6) zcV_RX6_58 (hB 31 (by decide) (by decide)) (z_c31 E _ _ _ _) rfl rfl rfl (by decide) (Nat.le_of_ble_eq_true rfl) dX6_tokenIs_43) (fun H locs hs => ?_)
        refine lv_aload_n hx hb dX6_tokenIs_46 rfl (lv_at hl 1 rfl) ?_
        refine lv_iload_n hx hb dX6_tokenIs_47 rfl (lv_at hl 3 rfl) ?_
        obtain ⟨g7, hf⟩ := z_gd hf
        refine z_strchar C hX hs hl.1 hg1 g7 zcV_RX6_96 (by decide) (Nat.le_of_ble_eq_true rfl) dX6_tokenIs_48 (fun H locs hs => ?_)
        refine lv_icmp_ne (tgt := 58) hx hb dX6_tokenIs_51 (by decide) (fun c8 => ?_) (fun c8 => ?_)
        · have hf := z_f hf c8
          refine lv_iconst (v := 0) hx hb dX6_tokenIs_58 (by decide) ?_
          refine lv_istore_n (lv' := [(2, .int 0), (0, .ref (z_ad E (31, 0, 0))), (1, .ref (K g1)), (3, .int x3)]) hx hb dX6_tokenIs_59 rfl hl (by decide) rfl (fun ls hl => ?_)
          obtain ⟨y9, e_y9⟩ : ∃ y : Int32, y = x3 + 1 := ⟨_, rfl⟩
          have hf := z_lte e_y9 hf
          refine lv_iinc (v := y9) (lv' := [(3, .int y9), (2, .int 0), (0, .ref (z_ad E (31, 0, 0))), (1, .ref (K g1))]) hx hb dX6_tokenIs_60 hl (k := 3) rfl (by rw [e_y9]; rfl) (by decide) rfl (fun ls hl => ?_)
          refine lv_goto (tgt := 24) hx hb dX6_tokenIs_63 (by decide) ?_
          exact ih 0 y9 σ6 _ _ _ hs (lv_sub hl [2, 3, 1, 0] rfl) hf
        · have hf := z_t hf c8
          refine lv_iconst (v := 1) hx hb dX6_tokenIs_54 (by decide) ?_
          refine lv_goto (tgt := 59) hx hb dX6_tokenIs_55 (by decide) ?_
          refine lv_istore_n (lv' := [(2, .int 1), (0, .ref (z_ad E (31, 0, 0))), (1, .ref (K g1)), (3, .int x3)]) hx hb dX6_tokenIs_59 rfl hl (by decide) rfl (fun ls hl => ?_)
          obtain ⟨y10, e_y10⟩ : ∃ y : Int32, y = x3 + 1 := ⟨_, rfl⟩
          have hf := z_lte e_y10 hf
          refine lv_iinc (v := y10) (lv' := [(3, .int y10), (2, .int 1), (0, .ref (z_ad E (31, 0, 0))), (1, .ref (K g1))]) hx hb dX6_tokenIs_60 hl (k := 3) rfl (by rw [e_y10]; rfl) (by decide) rfl (fun ls hl => ?_)
          refine lv_goto (tgt := 24) hx hb dX6_tokenIs_63 (by decide) ?_
          exact ih 1 y10 σ6 _ _ _ hs (lv_sub hl [2, 3, 1, 0] rfl) hf
set_option maxHeartbeats 4000000 in
set_option maxRecDepth 20000 in
theorem wT_tokenIs {g1 : Nat} (C : z_C E RX6 cX6_tokenIs 4 A p s m args meth c) (hr : meth.sig.returnType = (some .boolean)) (hB : z_B E) (hg1 : g1 < 3) (hX : z_Sx K V fv A s s.heap) {ro : Int32} {σo : zS} (σ : zS) (H : Heap) (locs : List Loc) (ls : Array Slot) (hs : z_H E A s σ H locs) (hl : lv_has ls 4 [(0, .ref (z_ad E (31, 0, 0))), (1, .ref (K g1))]) (hf : fT_tokenIs g1 σ = some (ro, σo)) : W p l e (z_rm 6) s m args below meth c H locs 0 0 (MQ below (z_QI E ro σo A) args s 0 0 A) (F0 m 0 ls []) := by
  have hx := C.1
  have hb := C.2.1
  unfold fT_tokenIs at hf
  refine lv_aload_n hx hb dX6_tokenIs_0 rfl (lv_at hl 1 rfl) ?_
  refine z_strlen C hX hs hl.1 hg1 zcV_RX6_92 (by decide) (Nat.le_of_ble_eq_true rfl) dX6_tokenIs_1 (fun H locs hs => ?_)
  refine lv_aload_n hx hb dX6_tokenIs_4 rfl (lv_at hl 0 rfl) ?_
  refine zg_T_tokenEnd C hs (hB 31 (by decide) (by decide)) z_k46 dX6_tokenIs_5 ?_
  refine lv_aload_n hx hb dX6_tokenIs_8 rfl (lv_at hl 0 rfl) ?_
  refine zg_T_tokenAt C hs (hB 31 (by decide) (by decide)) z_k45 dX6_tokenIs_9 ?_
  refine lv_isub hx hb dX6_tokenIs_12 ?_
  refine lv_icmp_ne (tgt := 20) hx hb dX6_tokenIs_13 (by decide) (fun c1 => ?_) (fun c1 => ?_)
  · have hf := z_f hf c1
    refine lv_iconst (v := 0) hx hb dX6_tokenIs_20 (by decide) ?_
    refine lv_istore_n (lv' := [(2, .int 0), (0, .ref (z_ad E (31, 0, 0))), (1, .ref (K g1))]) hx hb dX6_tokenIs_21 rfl hl (by decide) rfl (fun ls hl => ?_)
    refine lv_iconst (v := 0) hx hb dX6_tokenIs_22 (by decide) ?_
    refine lv_istore_n (lv' := [(3, .int 0), (2, .int 0), (0, .ref (z_ad E (31, 0, 0))), (1, .ref (K g1))]) hx hb dX6_tokenIs_23 rfl hl (by decide) rfl (fun ls hl => ?_)
    exact wT_tokenIs_24 C hr hB hg1 hX z_fu 0 0 σ _ _ _ hs (lv_sub hl [2, 3, 1, 0] rfl) hf
  · have hf := z_t hf c1
    refine lv_iconst (v := 1) hx hb dX6_tokenIs_16 (by decide) ?_
    refine lv_goto (tgt := 21) hx hb dX6_tokenIs_17 (by decide) ?_
    refine lv_istore_n (lv' := [(2, .int 1), (0, .ref (z_ad E (31, 0, 0))), (1, .ref (K g1))]) hx hb dX6_tokenIs_21 rfl hl (by decide) rfl (fun ls hl => ?_)
    refine lv_iconst (v := 0) hx hb dX6_tokenIs_22 (by decide) ?_
    refine lv_istore_n (lv' := [(3, .int 0), (2, .int 1), (0, .ref (z_ad E (31, 0, 0))), (1, .ref (K g1))]) hx hb dX6_tokenIs_23 rfl hl (by decide) rfl (fun ls hl => ?_)
    exact wT_tokenIs_24 C hr hB hg1 hX z_fu 1 0 σ _ _ _ hs (lv_sub hl [2, 3, 1, 0] rfl) hf
set_option maxHeartbeats 4000000 in
set_option maxRecDepth 20000 in
theorem cT_tokenIs (l : Launch) (E : zE) (K V : Nat → Nat) (fv : Value) {g1 : Nat} (hB : z_B E) (hg1 : g1 < 3) {σ σo : zS} {ro : Int32} (hf : fT_tokenIs g1 σ = some (ro, σo)) : z_TS l E K V fv yX6_tokenIs cX6_tokenIs 4 (some .boolean) (z_rm 6) (z_QI E ro σo) [.ref (z_ad E (31, 0, 0)), .ref (K g1)] σ :=
  z_enterS (by decide) (Nat.le_of_ble_eq_true rfl) rfl (fun p e s m below meth c A ls C hX hr hs hl => wT_tokenIs C hr hB hg1 hX σ _ _ ls hs hl hf)
theorem zcV_RX6_76 : z_CV RX6 76 yX6_tokenIs cX6_tokenIs 4 (some .boolean) 1 := ⟨⟨z_k411, z_k412, z_k413, z_k2, z_k414⟩, by decide +kernel, by decide⟩
theorem zcV_RX6_81 : z_CV RX6 81 yX6_takeName cX6_takeName 2 none 0 := ⟨⟨z_k464, z_k465, z_k466, z_k2, z_k467⟩, by decide +kernel, by decide⟩
theorem zcV_RX6_86 : z_CV RX6 86 yX6_markSilent cX6_markSilent 1 none 0 := ⟨⟨z_k473, z_k474, z_k475, z_k2, z_k476⟩, by decide +kernel, by decide⟩
def fT_takeToken_114 (x1 : Int32) (σ : zS) : Option (Int32 × zS) :=
  z_bd (fT_blame 2 (σ.1 (31, 0, 0) 8) σ) (fun _ σ4 =>
  some (x1, σ4))
def fT_takeToken (x1 : Int32) (σ : zS) : Option (Int32 × zS) :=
  if x1 = 0 then
    (z_bd (fT_tokenIs 0 σ) (fun r2 σ2 =>
    if r2 = 0 then
      (fT_takeToken_114 x1 σ2)
    else
      (if 7 ≤ (σ2.1 (31, 0, 0) 5) then
        (fT_takeToken_114 x1 σ2)
      else
        (some (1, σ2)))))
  else
    (if x1 = 1 then
      (z_bd (fT_isLetter (σ.1 (31, 0, 0) 8) σ) (fun r7 σ7 =>
      if r7 = 0 then
        (fT_takeToken_114 x1 σ7)
      else
        (z_bd (fT_tokenIs 0 σ7) (fun r9 σ9 =>
        if r9 = 0 then
          (z_bd (fT_tokenIs 1 σ9) (fun r11 σ11 =>
          if r11 = 0 then
            (z_bd (fT_takeName σ11) (fun _ σ13 =>
            some (2, σ13)))
          else
            (fT_takeToken_114 x1 σ11)))
        else
          (fT_takeToken_114 x1 σ9)))))
    else
      (z_bd (fT_tokenIs 2 σ) (fun r14 σ14 =>
      if r14 = 0 then
        (if x1 = 2 then
          (z_bd (fT_tokenIs 1 σ14) (fun r17 σ17 =>
          if r17 = 0 then
            (fT_takeToken_114 x1 σ17)
          else
            (z_bd (fT_markSilent σ17) (fun _ σ19 =>
            some (3, σ19)))))
        else
          (fT_takeToken_114 x1 σ14))
      else
        (some (0, σ14)))))
set_option maxHeartbeats 4000000 in
set_option maxRecDepth 20000 in
theorem wT_takeToken_114 (C : z_C E RX6 cX6_takeToken 2 A p s m args meth c) (hr : meth.sig.returnType = (some .int)) (hB : z_B E) (hX : z_Sx K V fv A s s.heap) {ro : Int32} {σo : zS} (x1 : Int32) (σ : zS) (H : Heap) (locs : List Loc) (ls : Array Slot) (hs : z_H E A s σ H locs) (hl : lv_has ls 2 [(0, .ref (z_ad E (31, 0, 0))), (1, .int x1)]) (hf : fT_takeToken_114 x1 σ = some (ro, σo)) : W p l e (z_rm 7) s m args below meth c H locs 0 0 (MQ below (z_QI E ro σo A) args s 0 0 A) (F0 m 114 ls []) := by
  have hx := C.1
  have hb := C.2.1
  unfold fT_takeToken_114 at hf
  refine lv_aload_n hx hb dX6_takeToken_114 rfl (lv_at hl 0 rfl) ?_
  refine lv_iconst (v := 2) hx hb dX6_takeToken_115 (by decide) ?_
  refine lv_aload_n hx hb dX6_takeToken_116 rfl (lv_at hl 0 rfl) ?_
  refine zg_T_tokenAt C hs (hB 31 (by decide) (by decide)) z_k45 dX6_takeToken_117 ?_
  obtain ⟨r4, σ4, h_4, hf⟩ := z_bds hf
  refine z_goV C hs (z_runV C hs hl.1 (cT_blame l E hB h_4) zcV_RX6_50 (hB 31 (by decide) (by decide)) (z_c31 E _ _ _ _) rfl rfl rfl (by decide) (Nat.le_of_ble_eq_true rfl) dX6_takeToken_120) (fun H locs hs => ?_)
  refine lv_iload_n hx hb dX6_takeToken_123 rfl (lv_at hl 1 rfl) ?_
  exact z_reti C hr hs hf dX6_takeToken_124
set_option maxHeartbeats 4000000 in
set_option maxRecDepth 20000 in
theorem wT_takeToken {x1 : Int32} (C : z_C E RX6 cX6_takeToken 2 A p s m args meth c) (hr : meth.sig.returnType = (some .int)) (hB : z_B E) (hX : z_Sx K V fv A s s.heap) {ro : Int32} {σo : zS} (σ : zS) (H : Heap) (locs : List Loc) (ls : Array Slot) (hs : z_H E A s σ H locs) (hl : lv_has ls 2 [(0, .ref (z_ad E (31, 0, 0))), (1, .int x1)]) (hf : fT_takeToken x1 σ = some (ro, σo)) : W p l e (z_rm 7) s m args below meth c H locs 0 0 (MQ below (z_QI E ro σo A) args s 0 0 A) (F0 m 0 ls []) := by
  have hx := C.1
  have hb := C.2.1
  unfold fT_takeToken at hf
  refine lv_iload_n hx hb dX6_takeToken_0 rfl (lv_at hl 1 rfl) ?_
  by_cases c1 : x1 = 0
  · have hf := z_t hf c1
    refine lv_lookup (off := 27) (tgt := 28) hx hb dX6_takeToken_1 (by decide) (by rw [c1]; decide) (by decide) ?_
    refine lv_aload_n hx hb dX6_takeToken_28 rfl (lv_at hl 0 rfl) ?_
    refine va_ldcS hx hb C.2.2.2.1 hX.2.1.1 dX6_takeToken_29 ?_
    obtain ⟨r2, σ2, h_2, hf⟩ := z_bds hf
    refine z_goI C hs (zr_runVS C hX hs hl.1 (cT_tokenIs l E K V fv hB (by decide) h_2) zcV_RX6_76 (hB 31 (by decide) (by decide)) (z_c31 E _ _ _ _) rfl rfl rfl (z_rmok (by decide) (by decide)) ⟨Nat.le_refl _, Nat.le_refl _⟩ (Nat.le_of_ble_eq_true rfl) dX6_takeToken_31) (fun H locs hs => ?_)
    refine lv_if_eq (tgt := 114) hx hb dX6_takeToken_34 (by decide) (fun c3 => ?_) (fun c3 => ?_)
    · have hf := z_t hf c3
      exact wT_takeToken_114 C hr hB hX x1 σ2 _ _ _ hs (lv_sub hl [0, 1] rfl) hf
    · have hf := z_f hf c3
      refine lv_aload_n hx hb dX6_takeToken_37 rfl (lv_at hl 0 rfl) ?_
      refine zg_T_told C hs (hB 31 (by decide) (by decide)) z_k40 dX6_takeToken_38 ?_
      refine lv_bipush (v := 7) hx hb dX6_takeToken_41 (by decide) ?_
      refine lv_icmp_ge (tgt := 114) hx hb dX6_takeToken_43 (by decide) (fun c5 => ?_) (fun c5 => ?_)
      · have hf := z_t hf c5
        exact wT_takeToken_114 C hr hB hX x1 σ2 _ _ _ hs (lv_sub hl [0, 1] rfl) hf
      · have hf := z_f hf c5
        refine lv_iconst (v := 1) hx hb dX6_takeToken_46 (by decide) ?_
        exact z_reti C hr hs hf dX6_takeToken_47
  · have hf := z_f hf c1
    by_cases c6 : x1 = 1
    · have hf := z_t hf c6
      refine lv_lookup (off := 47) (tgt := 48) hx hb dX6_takeToken_1 (by decide) (by rw [c6]; decide) (by decide) ?_
      refine lv_aload_n hx hb dX6_takeToken_48 rfl (lv_at hl 0 rfl) ?_
      refine lv_aload_n hx hb dX6_takeToken_49 rfl (lv_at hl 0 rfl) ?_
      refine zg_T_tokenAt C hs (hB 31 (by decide) (by decide)) z_k45 dX6_takeToken_50 ?_
      obtain ⟨r7, σ7, h_7, hf⟩ := z_bds hf
      refine z_goI C hs (z_runV C hs hl.1 (cT_isLetter l E hB h_7) zcV_RX6_71 (hB 31 (by decide) (by decide)) (z_c31 E _ _ _ _) rfl rfl rfl (by decide) (Nat.le_of_ble_eq_true rfl) dX6_takeToken_53) (fun H locs hs => ?_)
      refine lv_if_eq (tgt := 114) hx hb dX6_takeToken_56 (by decide) (fun c8 => ?_) (fun c8 => ?_)
      · have hf := z_t hf c8
        exact wT_takeToken_114 C hr hB hX x1 σ7 _ _ _ hs (lv_sub hl [0, 1] rfl) hf
      · have hf := z_f hf c8
        refine lv_aload_n hx hb dX6_takeToken_59 rfl (lv_at hl 0 rfl) ?_
        refine va_ldcS hx hb C.2.2.2.1 hX.2.1.1 dX6_takeToken_60 ?_
        obtain ⟨r9, σ9, h_9, hf⟩ := z_bds hf
        refine z_goI C hs (zr_runVS C hX hs hl.1 (cT_tokenIs l E K V fv hB (by decide) h_9) zcV_RX6_76 (hB 31 (by decide) (by decide)) (z_c31 E _ _ _ _) rfl rfl rfl (z_rmok (by decide) (by decide)) ⟨Nat.le_refl _, Nat.le_refl _⟩ (Nat.le_of_ble_eq_true rfl) dX6_takeToken_62) (fun H locs hs => ?_)
        refine lv_if_ne (tgt := 114) hx hb dX6_takeToken_65 (by decide) (fun c10 => ?_) (fun c10 => ?_)
        · have hf := z_f hf c10
          exact wT_takeToken_114 C hr hB hX x1 σ9 _ _ _ hs (lv_sub hl [0, 1] rfl) hf
        · have hf := z_t hf c10
          refine lv_aload_n hx hb dX6_takeToken_68 rfl (lv_at hl 0 rfl) ?_
          refine va_ldcS hx hb C.2.2.2.1 hX.2.1.2.1 dX6_takeToken_69 ?_
          obtain ⟨r11, σ11, h_11, hf⟩ := z_bds hf
          refine z_goI C hs (zr_runVS C hX hs hl.1 (cT_tokenIs l E K V fv hB (by decide) h_11) zcV_RX6_76 (hB 31 (by decide) (by decide)) (z_c31 E _ _ _ _) rfl rfl rfl (z_rmok (by decide) (by decide)) ⟨Nat.le_refl _, Nat.le_refl _⟩ (Nat.le_of_ble_eq_true rfl) dX6_takeToken_71) (fun H locs hs => ?_)
          refine lv_if_ne (tgt := 114) hx hb dX6_takeToken_74 (by decide) (fun c12 => ?_) (fun c12 => ?_)
          · have hf := z_f hf c12
            exact wT_takeToken_114 C hr hB hX x1 σ11 _ _ _ hs (lv_sub hl [0, 1] rfl) hf
          · have hf := z_t hf c12
            refine lv_aload_n hx hb dX6_takeToken_77 rfl (lv_at hl 0 rfl) ?_
            obtain ⟨r13, σ13, h_13, hf⟩ := z_bds hf
            refine z_goV C hs (z_runV C hs hl.1 (cT_takeName l E hB h_13) zcV_RX6_81 (hB 31 (by decide) (by decide)) (z_c31 E _ _ _ _) rfl rfl rfl (by decide) (Nat.le_of_ble_eq_true rfl) dX6_takeToken_78) (fun H locs hs => ?_)
            refine lv_iconst (v := 2) hx hb dX6_takeToken_81 (by decide) ?_
            exact z_reti C hr hs hf dX6_takeToken_82
    · have hf := z_f hf c6
      refine lv_lookup (off := 82) (tgt := 83) hx hb dX6_takeToken_1 (by decide) (by
        have q0 := z_ne (k := 0) (n := 0) (by decide +kernel) c1
        have q1 := z_ne (k := 1) (n := 1) (by decide +kernel) c6
        simp [Op.lookupswitch.offset, q0, q0.symm, q1, q1.symm]) (by decide) ?_
      refine lv_aload_n hx hb dX6_takeToken_83 rfl (lv_at hl 0 rfl) ?_
      refine va_ldcS hx hb C.2.2.2.1 hX.2.1.2.2 dX6_takeToken_84 ?_
      obtain ⟨r14, σ14, h_14, hf⟩ := z_bds hf
      refine z_goI C hs (zr_runVS C hX hs hl.1 (cT_tokenIs l E K V fv hB (by decide) h_14) zcV_RX6_76 (hB 31 (by decide) (by decide)) (z_c31 E _ _ _ _) rfl rfl rfl (z_rmok (by decide) (by decide)) ⟨Nat.le_refl _, Nat.le_refl _⟩ (Nat.le_of_ble_eq_true rfl) dX6_takeToken_86) (fun H locs hs => ?_)
      refine lv_if_eq (tgt := 94) hx hb dX6_takeToken_89 (by decide) (fun c15 => ?_) (fun c15 => ?_)
      · have hf := z_t hf c15
        refine lv_iload_n hx hb dX6_takeToken_94 rfl (lv_at hl 1 rfl) ?_
        refine lv_iconst (v := 2) hx hb dX6_takeToken_95 (by decide) ?_
        refine lv_icmp_ne (tgt := 114) hx hb dX6_takeToken_96 (by decide) (fun c16 => ?_) (fun c16 => ?_)
        · have hf := z_f hf c16
          exact wT_takeToken_114 C hr hB hX x1 σ14 _ _ _ hs (lv_sub hl [0, 1] rfl) hf
        · have hf := z_t hf c16
          refine lv_aload_n hx hb dX6_takeToken_99 rfl (lv_at hl 0 rfl) ?_
          refine va_ldcS hx hb C.2.2.2.1 hX.2.1.2.1 dX6_takeToken_100 ?_
          obtain ⟨r17, σ17, h_17, hf⟩ := z_bds hf
          refine z_goI C hs (zr_runVS C hX hs hl.1 (cT_tokenIs l E K V fv hB (by decide) h_17) zcV_RX6_76 (hB 31 (by decide) (by decide)) (z_c31 E _ _ _ _) rfl rfl rfl (z_rmok (by decide) (by decide)) ⟨Nat.le_refl _, Nat.le_refl _⟩ (Nat.le_of_ble_eq_true rfl) dX6_takeToken_102) (fun H locs hs => ?_)
          refine lv_if_eq (tgt := 114) hx hb dX6_takeToken_105 (by decide) (fun c18 => ?_) (fun c18 => ?_)
          · have hf := z_t hf c18
            exact wT_takeToken_114 C hr hB hX x1 σ17 _ _ _ hs (lv_sub hl [0, 1] rfl) hf
          · have hf := z_f hf c18
            refine lv_aload_n hx hb dX6_takeToken_108 rfl (lv_at hl 0 rfl) ?_
            obtain ⟨r19, σ19, h_19, hf⟩ := z_bds hf
            refine z_goV C hs (z_runV C hs hl.1 (cT_markSilent l E hB h_19) zcV_RX6_86 (hB 31 (by decide) (by decide)) (z_c31 E _ _ _ _) rfl rfl rfl (by decide) (Nat.le_of_ble_eq_true rfl) dX6_takeToken_109) (fun H locs hs => ?_)
            refine lv_iconst (v := 3) hx hb dX6_takeToken_112 (by decide) ?_
            exact z_reti C hr hs hf dX6_takeToken_113
      · have hf := z_f hf c15
        refine lv_iconst (v := 0) hx hb dX6_takeToken_92 (by decide) ?_
        exact z_reti C hr hs hf dX6_takeToken_93
set_option maxHeartbeats 4000000 in
set_option maxRecDepth 20000 in
theorem cT_takeToken (l : Launch) (E : zE) (K V : Nat → Nat) (fv : Value) {x1 : Int32} (hB : z_B E) {σ σo : zS} {ro : Int32} (hf : fT_takeToken x1 σ = some (ro, σo)) : z_TS l E K V fv yX6_takeToken cX6_takeToken 2 (some .int) (z_rm 7) (z_QI E ro σo) [.ref (z_ad E (31, 0, 0)), .int x1] σ :=
  z_enterS (by decide) (Nat.le_of_ble_eq_true rfl) rfl (fun p e s m below meth c A ls C hX hr hs hl => wT_takeToken C hr hB hX σ _ _ ls hs hl hf)
theorem zcV_RX6_42 : z_CV RX6 42 yX6_findToken cX6_findToken 1 (some .boolean) 0 := ⟨⟨z_k382, z_k383, z_k384, z_k2, z_k385⟩, by decide +kernel, by decide⟩
theorem zcV_RX6_46 : z_CV RX6 46 yX6_takeToken cX6_takeToken 2 (some .int) 1 := ⟨⟨z_k406, z_k407, z_k408, z_k2, z_k409⟩, by decide +kernel, by decide⟩
theorem zcV_RX6_54 : z_CV RX6 54 yX6_countVoters cX6_countVoters 3 (some .int) 0 := ⟨⟨z_k477, z_k478, z_k479, z_k2, z_k480⟩, by decide +kernel, by decide⟩
def fT_parse_77 (σ : zS) : Option (Unit × zS) :=
  if (σ.1 (31, 0, 0) 6) = 0 then
    (z_bd (fT_countVoters σ) (fun r9 σ9 =>
    if r9 = 0 then
      (z_bd (fT_blame 4 (σ9.1 (31, 0, 0) 4) σ9) (fun _ σ12 =>
      z_let (z_up σ12 (31, 0, 0) 4 0) (fun σ13 =>
      some ((), σ13))))
    else
      (z_let (z_up σ9 (31, 0, 0) 4 0) (fun σ11 =>
      some ((), σ11)))))
  else
    (z_let (z_up σ (31, 0, 0) 4 0) (fun σ8 =>
    some ((), σ8)))
def fT_parse_57 (x1 : Int32) (σ : zS) : Option (Unit × zS) :=
  if (σ.1 (31, 0, 0) 6) = 0 then
    (if x1 = 0 then
      (fT_parse_77 σ)
    else
      (z_bd (fT_blame 2 (σ.1 (31, 0, 0) 4) σ) (fun _ σ15 =>
      fT_parse_77 σ15)))
  else
    (fT_parse_77 σ)
def fT_parse_24 : Nat → Int32 → Int32 → zS → Option (Unit × zS)
  | 0, _, _, _ => none
  | n + 1, x1, x2, σ =>
    if 400 ≤ x2 then
      (fT_parse_57 x1 σ)
    else
      (if (σ.1 (31, 0, 0) 6) = 0 then
        (z_bd (fT_findToken σ) (fun r17 σ17 =>
        if r17 = 0 then
          (fT_parse_57 x1 σ17)
        else
          (z_bd (fT_takeToken x1 σ17) (fun r19 σ19 =>
          z_let (x2 + 1) (fun y20 =>
          fT_parse_24 n r19 y20 σ19)))))
      else
        (fT_parse_57 x1 σ))
def fT_parse (σ : zS) : Option (Unit × zS) :=
  z_let (z_up σ (31, 0, 0) 5 0) (fun σ1 =>
  z_let (z_up σ1 (31, 0, 0) 6 0) (fun σ2 =>
  z_let (z_up σ2 (31, 0, 0) 7 ((-1))) (fun σ3 =>
  z_let (z_up σ3 (31, 0, 0) 9 0) (fun σ4 =>
  fT_parse_24 z_fu 0 0 σ4))))
set_option maxHeartbeats 4000000 in
set_option maxRecDepth 20000 in
theorem wT_parse_77 (C : z_C E RX6 cX6_parse 3 A p s m args meth c) (hr : meth.sig.returnType = none) (hB : z_B E) (hX : z_Sx K V fv A s s.heap) {ro : Unit} {σo : zS} (σ : zS) (H : Heap) (locs : List Loc) (ls : Array Slot) (hs : z_H E A s σ H locs) (hl : lv_has ls 3 [(0, .ref (z_ad E (31, 0, 0)))]) (hf : fT_parse_77 σ = some (ro, σo)) : W p l e (z_rm 8) s m args below meth c H locs 0 0 (MQ below (z_QV E ro σo A) args s 0 0 A) (F0 m 77 ls []) := by
  have hx := C.1
  have hb := C.2.1
  unfold fT_parse_77 at hf
  refine lv_aload_n hx hb dX6_parse_77 rfl (lv_at hl 0 rfl) ?_
  refine zg_T_fault C hs (hB 31 (by decide) (by decide)) z_k41 dX6_parse_78 ?_
  refine lv_if_ne (tgt := 100) hx hb dX6_parse_81 (by decide) (fun c7 => ?_) (fun c7 => ?_)
  · have hf := z_f hf c7
    refine lv_aload_n hx hb dX6_parse_100 rfl (lv_at hl 0 rfl) ?_
    refine lv_iconst (v := 0) hx hb dX6_parse_101 (by decide) ?_
    refine zp_T_length C hs (hB 31 (by decide) (by decide)) z_k37 dX6_parse_102 (fun H locs hs => ?_)
    obtain ⟨σ8, -, hs, hf⟩ := z_top hs hf
    exact z_retv C hr hs hf dX6_parse_105
  · have hf := z_t hf c7
    refine lv_aload_n hx hb dX6_parse_84 rfl (lv_at hl 0 rfl) ?_
    obtain ⟨r9, σ9, h_9, hf⟩ := z_bds hf
    refine z_goI C hs (z_runV C hs hl.1 (cT_countVoters l E hB h_9) zcV_RX6_54 (hB 31 (by decide) (by decide)) (z_c31 E _ _ _ _) rfl rfl rfl (by decide) (Nat.le_of_ble_eq_true rfl) dX6_parse_85) (fun H locs hs => ?_)
    refine lv_if_ne (tgt := 100) hx hb dX6_parse_88 (by decide) (fun c10 => ?_) (fun c10 => ?_)
    · have hf := z_f hf c10
      refine lv_aload_n hx hb dX6_parse_100 rfl (lv_at hl 0 rfl) ?_
      refine lv_iconst (v := 0) hx hb dX6_parse_101 (by decide) ?_
      refine zp_T_length C hs (hB 31 (by decide) (by decide)) z_k37 dX6_parse_102 (fun H locs hs => ?_)
      obtain ⟨σ11, -, hs, hf⟩ := z_top hs hf
      exact z_retv C hr hs hf dX6_parse_105
    · have hf := z_t hf c10
      refine lv_aload_n hx hb dX6_parse_91 rfl (lv_at hl 0 rfl) ?_
      refine lv_iconst (v := 4) hx hb dX6_parse_92 (by decide) ?_
      refine lv_aload_n hx hb dX6_parse_93 rfl (lv_at hl 0 rfl) ?_
      refine zg_T_length C hs (hB 31 (by decide) (by decide)) z_k37 dX6_parse_94 ?_
      obtain ⟨r12, σ12, h_12, hf⟩ := z_bds hf
      refine z_goV C hs (z_runV C hs hl.1 (cT_blame l E hB h_12) zcV_RX6_50 (hB 31 (by decide) (by decide)) (z_c31 E _ _ _ _) rfl rfl rfl (by decide) (Nat.le_of_ble_eq_true rfl) dX6_parse_97) (fun H locs hs => ?_)
      refine lv_aload_n hx hb dX6_parse_100 rfl (lv_at hl 0 rfl) ?_
      refine lv_iconst (v := 0) hx hb dX6_parse_101 (by decide) ?_
      refine zp_T_length C hs (hB 31 (by decide) (by decide)) z_k37 dX6_parse_102 (fun H locs hs => ?_)
      obtain ⟨σ13, -, hs, hf⟩ := z_top hs hf
      exact z_retv C hr hs hf dX6_parse_105
set_option maxHeartbeats 4000000 in
set_option maxRecDepth 20000 in
theorem wT_parse_57 (C : z_C E RX6 cX6_parse 3 A p s m args meth c) (hr : meth.sig.returnType = none) (hB : z_B E) (hX : z_Sx K V fv A s s.heap) {ro : Unit} {σo : zS} (x1 : Int32) (σ : zS) (H : Heap) (locs : List Loc) (ls : Array Slot) (hs : z_H E A s σ H locs) (hl : lv_has ls 3 [(0, .ref (z_ad E (31, 0, 0))), (1, .int x1)]) (hf : fT_parse_57 x1 σ = some (ro, σo)) : W p l e (z_rm 8) s m args below meth c H locs 0 0 (MQ below (z_QV E ro σo A) args s 0 0 A) (F0 m 57 ls []) := by
  have hx := C.1
  have hb := C.2.1
  unfold fT_parse_57 at hf
  refine lv_aload_n hx hb dX6_parse_57 rfl (lv_at hl 0 rfl) ?_
  refine zg_T_fault C hs (hB 31 (by decide) (by decide)) z_k41 dX6_parse_58 ?_
  refine lv_if_ne (tgt := 77) hx hb dX6_parse_61 (by decide) (fun c6 => ?_) (fun c6 => ?_)
  · have hf := z_f hf c6
    exact wT_parse_77 C hr hB hX σ _ _ _ hs (lv_sub hl [0] rfl) hf
  · have hf := z_t hf c6
    refine lv_iload_n hx hb dX6_parse_64 rfl (lv_at hl 1 rfl) ?_
    refine lv_if_eq (tgt := 77) hx hb dX6_parse_65 (by decide) (fun c14 => ?_) (fun c14 => ?_)
    · have hf := z_t hf c14
      exact wT_parse_77 C hr hB hX σ _ _ _ hs (lv_sub hl [0] rfl) hf
    · have hf := z_f hf c14
      refine lv_aload_n hx hb dX6_parse_68 rfl (lv_at hl 0 rfl) ?_
      refine lv_iconst (v := 2) hx hb dX6_parse_69 (by decide) ?_
      refine lv_aload_n hx hb dX6_parse_70 rfl (lv_at hl 0 rfl) ?_
      refine zg_T_length C hs (hB 31 (by decide) (by decide)) z_k37 dX6_parse_71 ?_
      obtain ⟨r15, σ15, h_15, hf⟩ := z_bds hf
      refine z_goV C hs (z_runV C hs hl.1 (cT_blame l E hB h_15) zcV_RX6_50 (hB 31 (by decide) (by decide)) (z_c31 E _ _ _ _) rfl rfl rfl (by decide) (Nat.le_of_ble_eq_true rfl) dX6_parse_74) (fun H locs hs => ?_)
      exact wT_parse_77 C hr hB hX σ15 _ _ _ hs (lv_sub hl [0] rfl) hf
set_option maxHeartbeats 4000000 in
set_option maxRecDepth 20000 in
theorem wT_parse_24 (C : z_C E RX6 cX6_parse 3 A p s m args meth c) (hr : meth.sig.returnType = none) (hB : z_B E) (hX : z_Sx K V fv A s s.heap) {ro : Unit} {σo : zS} (n : Nat) : ∀ (x1 : Int32) (x2 : Int32) (σ : zS) (H : Heap) (locs : List Loc) (ls : Array Slot), z_H E A s σ H locs → lv_has ls 3 [(0, .ref (z_ad E (31, 0, 0))), (1, .int x1), (2, .int x2)] → fT_parse_24 n x1 x2 σ = some (ro, σo) → W p l e (z_rm 8) s m args below meth c H locs 0 0 (MQ below (z_QV E ro σo A) args s 0 0 A) (F0 m 24 ls []) := by
  induction n with
  | zero =>
    intro x1 x2 σ H locs ls hs hl hf
    have hf : none = some (ro, σo) := hf
    cases hf
  | succ n ih =>
    intro x1 x2 σ H locs ls hs hl hf
    have hx := C.1
    have hb := C.2.1
    rw [fT_parse_24.eq_2] at hf
    refine lv_iload_n hx hb dX6_parse_24 rfl (lv_at hl 2 rfl) ?_
    refine lv_sipush (v := 400) hx hb dX6_parse_25 (by decide) ?_
    refine lv_icmp_ge (tgt := 57) hx hb dX6_parse_28 (by decide) (fun c5 => ?_) (fun c5 => ?_)
    · have hf := z_t hf c5
      exact wT_parse_57 C hr hB hX x1 σ _ _ _ hs (lv_sub hl [0, 1] rfl) hf
    · have hf := z_f hf c5
      refine lv_aload_n hx hb dX6_parse_31 rfl (lv_at hl 0 rfl) ?_
      refine zg_T_fault C hs (hB 31 (by decide) (by decide)) z_k41 dX6_parse_32 ?_
      refine lv_if_ne (tgt := 57) hx hb dX6_parse_35 (by decide) (fun c16 => ?_) (fun c16 => ?_)
      · have hf := z_f hf c16
        exact wT_parse_57 C hr hB hX x1 σ _ _ _ hs (lv_sub hl [0, 1] rfl) hf
      · have hf := z_t hf c16
        refine lv_aload_n hx hb dX6_parse_38 rfl (lv_at hl 0 rfl) ?_
        obtain ⟨r17, σ17, h_17, hf⟩ := z_bds hf
        refine z_goI C hs (z_runV C hs hl.1 (cT_findToken l E hB h_17) zcV_RX6_42 (hB 31 (by decide) (by decide)) (z_c31 E _ _ _ _) rfl rfl rfl (by decide) (Nat.le_of_ble_eq_true rfl) dX6_parse_39) (fun H locs hs => ?_)
        refine lv_if_eq (tgt := 57) hx hb dX6_parse_42 (by decide) (fun c18 => ?_) (fun c18 => ?_)
        · have hf := z_t hf c18
          exact wT_parse_57 C hr hB hX x1 σ17 _ _ _ hs (lv_sub hl [0, 1] rfl) hf
        · have hf := z_f hf c18
          refine lv_aload_n hx hb dX6_parse_45 rfl (lv_at hl 0 rfl) ?_
          refine lv_iload_n hx hb dX6_parse_46 rfl (lv_at hl 1 rfl) ?_
          obtain ⟨r19, σ19, h_19, hf⟩ := z_bds hf
          refine z_goI C hs (zr_runVS C hX hs hl.1 (cT_takeToken l E K V fv hB h_19) zcV_RX6_46 (hB 31 (by decide) (by decide)) (z_c31 E _ _ _ _) rfl rfl rfl (z_rmok (by decide) (by decide)) ⟨Nat.le_refl _, Nat.le_refl _⟩ (Nat.le_of_ble_eq_true rfl) dX6_parse_47) (fun H locs hs => ?_)
          refine lv_istore_n (lv' := [(1, .int r19), (0, .ref (z_ad E (31, 0, 0))), (2, .int x2)]) hx hb dX6_parse_50 rfl hl (by decide) rfl (fun ls hl => ?_)
          obtain ⟨y20, e_y20⟩ : ∃ y : Int32, y = x2 + 1 := ⟨_, rfl⟩
          have hf := z_lte e_y20 hf
          refine lv_iinc (v := y20) (lv' := [(2, .int y20), (1, .int r19), (0, .ref (z_ad E (31, 0, 0)))]) hx hb dX6_parse_51 hl (k := 2) rfl (by rw [e_y20]; rfl) (by decide) rfl (fun ls hl => ?_)
          refine lv_goto (tgt := 24) hx hb dX6_parse_54 (by decide) ?_
          exact ih r19 y20 σ19 _ _ _ hs (lv_sub hl [2, 1, 0] rfl) hf
set_option maxHeartbeats 4000000 in
set_option maxRecDepth 20000 in
theorem wT_parse (C : z_C E RX6 cX6_parse 3 A p s m args meth c) (hr : meth.sig.returnType = none) (hB : z_B E) (hX : z_Sx K V fv A s s.heap) {ro : Unit} {σo : zS} (σ : zS) (H : Heap) (locs : List Loc) (ls : Array Slot) (hs : z_H E A s σ H locs) (hl : lv_has ls 3 [(0, .ref (z_ad E (31, 0, 0)))]) (hf : fT_parse σ = some (ro, σo)) : W p l e (z_rm 8) s m args below meth c H locs 0 0 (MQ below (z_QV E ro σo A) args s 0 0 A) (F0 m 0 ls []) := by
  have hx := C.1
  have hb := C.2.1
  unfold fT_parse at hf
  refine lv_aload_n hx hb dX6_parse_0 rfl (lv_at hl 0 rfl) ?_
  refine lv_iconst (v := 0) hx hb dX6_parse_1 (by decide) ?_
  refine zp_T_told C hs (hB 31 (by decide) (by decide)) z_k40 dX6_parse_2 (fun H locs hs => ?_)
  obtain ⟨σ1, -, hs, hf⟩ := z_top hs hf
  refine lv_aload_n hx hb dX6_parse_5 rfl (lv_at hl 0 rfl) ?_
  refine lv_iconst (v := 0) hx hb dX6_parse_6 (by decide) ?_
  refine zp_T_fault C hs (hB 31 (by decide) (by decide)) z_k41 dX6_parse_7 (fun H locs hs => ?_)
  obtain ⟨σ2, -, hs, hf⟩ := z_top hs hf
  refine lv_aload_n hx hb dX6_parse_10 rfl (lv_at hl 0 rfl) ?_
  refine lv_iconst (v := (-1)) hx hb dX6_parse_11 (by decide) ?_
  refine zp_T_faultPlace C hs (hB 31 (by decide) (by decide)) z_k43 dX6_parse_12 (fun H locs hs => ?_)
  obtain ⟨σ3, -, hs, hf⟩ := z_top hs hf
  refine lv_aload_n hx hb dX6_parse_15 rfl (lv_at hl 0 rfl) ?_
  refine lv_iconst (v := 0) hx hb dX6_parse_16 (by decide) ?_
  refine zp_T_tokenEnd C hs (hB 31 (by decide) (by decide)) z_k46 dX6_parse_17 (fun H locs hs => ?_)
  obtain ⟨σ4, -, hs, hf⟩ := z_top hs hf
  refine lv_iconst (v := 0) hx hb dX6_parse_20 (by decide) ?_
  refine lv_istore_n (lv' := [(1, .int 0), (0, .ref (z_ad E (31, 0, 0)))]) hx hb dX6_parse_21 rfl hl (by decide) rfl (fun ls hl => ?_)
  refine lv_iconst (v := 0) hx hb dX6_parse_22 (by decide) ?_
  refine lv_istore_n (lv' := [(2, .int 0), (1, .int 0), (0, .ref (z_ad E (31, 0, 0)))]) hx hb dX6_parse_23 rfl hl (by decide) rfl (fun ls hl => ?_)
  exact wT_parse_24 C hr hB hX z_fu 0 0 σ4 _ _ _ hs (lv_sub hl [2, 1, 0] rfl) hf
set_option maxHeartbeats 4000000 in
set_option maxRecDepth 20000 in
theorem cT_parse (l : Launch) (E : zE) (K V : Nat → Nat) (fv : Value) (hB : z_B E) {σ σo : zS} {ro : Unit} (hf : fT_parse σ = some (ro, σo)) : z_TS l E K V fv yX6_parse cX6_parse 3 none (z_rm 8) (z_QV E ro σo) [.ref (z_ad E (31, 0, 0))] σ :=
  z_enterS (by decide) (Nat.le_of_ble_eq_true rfl) rfl (fun p e s m below meth c A ls C hX hr hs hl => wT_parse C hr hB hX σ _ _ ls hs hl hf)
theorem zcV_RX8_50 : z_CV RX8 50 yX6_parse cX6_parse 3 none 0 := ⟨⟨z_k378, z_k379, z_k380, z_k2, z_k381⟩, by decide +kernel, by decide⟩
theorem zcV_RX8_56 : z_CV RX8 56 yX7_begin cX7_begin 3 none 1 := ⟨⟨z_k481, z_k482, z_k483, z_k3, z_k484⟩, by decide +kernel, by decide⟩
def fX_keepers_32 : Nat → Int32 → zS → Option (Int32 × zS)
  | 0, _, _ => none
  | n + 1, x1, σ =>
    if 3 ≤ x1 then
      (some (σ.1 (0, 0, 0) 3, σ))
    else
      (if z_in x1 3 = true then (
      z_let (z_up σ (37, 0, 0) (x1.toNatClampNeg) (vp_nar .boolean 0)) (fun σ6 =>
      z_let (x1 + 1) (fun y7 =>
      fX_keepers_32 n y7 σ6))) else none)
def fX_keepers (σ : zS) : Option (Int32 × zS) :=
  z_bd (fT_parse σ) (fun _ σ1 =>
  if (σ1.1 (31, 0, 0) 6) = 0 then
    (z_bd (fW_begin 0 σ1) (fun _ σ3 =>
    fX_keepers_32 z_fu 0 σ3))
  else
    (some ((-1), σ1)))
set_option maxHeartbeats 4000000 in
set_option maxRecDepth 20000 in
theorem wX_keepers_32 (C : z_C E RX8 cX8_keepers 2 A p s m args meth c) (hr : meth.sig.returnType = (some .int)) (hB : z_B E) (hW0 : z_W E 0) (hX : z_Sx K V fv A s s.heap) {ro : Int32} {σo : zS} (n : Nat) : ∀ (x1 : Int32) (σ : zS) (H : Heap) (locs : List Loc) (ls : Array Slot), z_H E A s σ H locs → lv_has ls 2 [(0, .ref (z_ad E (30, 0, 0))), (1, .int x1)] → fX_keepers_32 n x1 σ = some (ro, σo) → W p l e (z_rm 11) s m args below meth c H locs 0 0 (MQ below (z_QI E ro σo A) args s 0 0 A) (F0 m 32 ls []) := by
  induction n with
  | zero =>
    intro x1 σ H locs ls hs hl hf
    have hf : none = some (ro, σo) := hf
    cases hf
  | succ n ih =>
    intro x1 σ H locs ls hs hl hf
    have hx := C.1
    have hb := C.2.1
    rw [fX_keepers_32.eq_2] at hf
    refine lv_iload_n hx hb dX8_keepers_32 rfl (lv_at hl 1 rfl) ?_
    refine lv_iconst (v := 3) hx hb dX8_keepers_33 (by decide) ?_
    refine lv_icmp_ge (tgt := 50) hx hb dX8_keepers_34 (by decide) (fun c4 => ?_) (fun c4 => ?_)
    · have hf := z_t hf c4
      refine lv_aload_n hx hb dX8_keepers_50 rfl (lv_at hl 0 rfl) ?_
      refine zg_X_world C hs (hB 30 (by decide) (by decide)) z_k343 dX8_keepers_51 ?_
      refine zg_W_count C hs (hW0.1 0 (by decide)) z_k288 dX8_keepers_54 ?_
      exact z_reti C hr hs hf dX8_keepers_57
    · have hf := z_f hf c4
      refine lv_aload_n hx hb dX8_keepers_37 rfl (lv_at hl 0 rfl) ?_
      refine zg_X_kept C hs (hB 30 (by decide) (by decide)) z_k345 dX8_keepers_38 ?_
      refine lv_iload_n hx hb dX8_keepers_41 rfl (lv_at hl 1 rfl) ?_
      refine lv_iconst (v := 0) hx hb dX8_keepers_42 (by decide) ?_
      obtain ⟨g5, hf⟩ := z_gd hf
      refine z_zast C hs (hB 37 (by decide) (by decide)) (fun r h => z_c37 E r h _ _) g5 rfl dX8_keepers_43 (fun H locs hs => ?_)
      obtain ⟨σ6, -, hs, hf⟩ := z_top hs hf
      obtain ⟨y7, e_y7⟩ : ∃ y : Int32, y = x1 + 1 := ⟨_, rfl⟩
      have hf := z_lte e_y7 hf
      refine lv_iinc (v := y7) (lv' := [(1, .int y7), (0, .ref (z_ad E (30, 0, 0)))]) hx hb dX8_keepers_44 hl (k := 1) rfl (by rw [e_y7]; rfl) (by decide) rfl (fun ls hl => ?_)
      refine lv_goto (tgt := 32) hx hb dX8_keepers_47 (by decide) ?_
      exact ih y7 σ6 _ _ _ hs (lv_sub hl [1, 0] rfl) hf
set_option maxHeartbeats 4000000 in
set_option maxRecDepth 20000 in
theorem wX_keepers (C : z_C E RX8 cX8_keepers 2 A p s m args meth c) (hr : meth.sig.returnType = (some .int)) (hB : z_B E) (hW0 : z_W E 0) (hX : z_Sx K V fv A s s.heap) {ro : Int32} {σo : zS} (σ : zS) (H : Heap) (locs : List Loc) (ls : Array Slot) (hs : z_H E A s σ H locs) (hl : lv_has ls 2 [(0, .ref (z_ad E (30, 0, 0)))]) (hf : fX_keepers σ = some (ro, σo)) : W p l e (z_rm 11) s m args below meth c H locs 0 0 (MQ below (z_QI E ro σo A) args s 0 0 A) (F0 m 0 ls []) := by
  have hx := C.1
  have hb := C.2.1
  unfold fX_keepers at hf
  refine lv_aload_n hx hb dX8_keepers_0 rfl (lv_at hl 0 rfl) ?_
  refine zg_X_tape C hs (hB 30 (by decide) (by decide)) z_k342 dX8_keepers_1 ?_
  obtain ⟨r1, σ1, h_1, hf⟩ := z_bds hf
  refine z_goV C hs (zr_runVS C hX hs hl.1 (cT_parse l E K V fv hB h_1) zcV_RX8_50 (hB 31 (by decide) (by decide)) (z_c31 E _ _ _ _) rfl rfl rfl (z_rmok (by decide) (by decide)) ⟨Nat.le_refl _, Nat.le_refl _⟩ (Nat.le_of_ble_eq_true rfl) dX8_keepers_4) (fun H locs hs => ?_)
  refine lv_aload_n hx hb dX8_keepers_7 rfl (lv_at hl 0 rfl) ?_
  refine zg_X_tape C hs (hB 30 (by decide) (by decide)) z_k342 dX8_keepers_8 ?_
  refine zg_T_fault C hs (hB 31 (by decide) (by decide)) z_k42 dX8_keepers_11 ?_
  refine lv_if_eq (tgt := 19) hx hb dX8_keepers_14 (by decide) (fun c2 => ?_) (fun c2 => ?_)
  · have hf := z_t hf c2
    refine lv_aload_n hx hb dX8_keepers_19 rfl (lv_at hl 0 rfl) ?_
    refine zg_X_world C hs (hB 30 (by decide) (by decide)) z_k343 dX8_keepers_20 ?_
    refine lv_aload_n hx hb dX8_keepers_23 rfl (lv_at hl 0 rfl) ?_
    refine zg_X_tape C hs (hB 30 (by decide) (by decide)) z_k342 dX8_keepers_24 ?_
    obtain ⟨r3, σ3, h_3, hf⟩ := z_bds hf
    refine z_goV C hs (z_runV C hs hl.1 (cW_begin l E hW0 hB h_3) zcV_RX8_56 (hW0.1 0 (by decide)) (z_c0 E _ _ _ _) rfl rfl rfl (by decide) (Nat.le_of_ble_eq_true rfl) dX8_keepers_27) (fun H locs hs => ?_)
    refine lv_iconst (v := 0) hx hb dX8_keepers_30 (by decide) ?_
    refine lv_istore_n (lv' := [(1, .int 0), (0, .ref (z_ad E (30, 0, 0)))]) hx hb dX8_keepers_31 rfl hl (by decide) rfl (fun ls hl => ?_)
    exact wX_keepers_32 C hr hB hW0 hX z_fu 0 σ3 _ _ _ hs (lv_sub hl [1, 0] rfl) hf
  · have hf := z_f hf c2
    refine lv_iconst (v := (-1)) hx hb dX8_keepers_17 (by decide) ?_
    exact z_reti C hr hs hf dX8_keepers_18
set_option maxHeartbeats 4000000 in
set_option maxRecDepth 20000 in
theorem cX_keepers (l : Launch) (E : zE) (K V : Nat → Nat) (fv : Value) (hB : z_B E) (hW0 : z_W E 0) {σ σo : zS} {ro : Int32} (hf : fX_keepers σ = some (ro, σo)) : z_TS l E K V fv yX8_keepers cX8_keepers 2 (some .int) (z_rm 11) (z_QI E ro σo) [.ref (z_ad E (30, 0, 0))] σ :=
  z_enterS (by decide) (Nat.le_of_ble_eq_true rfl) rfl (fun p e s m below meth c A ls C hX hr hs hl => wX_keepers C hr hB hW0 hX σ _ _ ls hs hl hf)
end z_walkss
