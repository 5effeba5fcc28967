theorem z_omn {β : Type} {x : β} {f : Nat → β} {o : β} (h : z_om none x f = o) : x = o := h
theorem z_oms {β : Type} {i : Nat} {x : β} {f : Nat → β} {o : β} (h : z_om (some i) x f = o) : f i = o := h
section z_rows3
variable {p : Program} {l : Launch} {e : Env} {s : State} {m : MethodId} {args : Array Value} {below : List Frame} {meth : Method} {c : Code} {H : Heap} {locs : List Loc} {Q : State → Prop}
variable {cc : ByteArray} {pc nL lev j : Nat} {ls : Array Slot} {rest st : List Value} {E : zE} {σ τ : zS} {A : Nat → Prop} {own : String} {y : MethodName} {b : ByteArray} {n : Nat} {ret : Option FieldType}
theorem z_max (C : z_C E own cc nL A p s m args meth c) (hls : ls.size = nL) {index : Nat} (hl : Cond.methodLink own index yJ9_max_7cf53 ∈ z_wl) (hlev : 1 ≤ lev) (hrest : (rest.map fun v => v.category).sum ≤ 8) {x1 x2 : Int32} (hdg : decode cc pc = .ok (.invokestatic index, 3))
    (kk : W p l e (z_rm lev) s m args below meth c H locs 0 0 Q (F0 m (pc + 3) ls (.int (if x1 < x2 then x2 else x1) :: rest))) : W p l e (z_rm lev) s m args below meth c H locs 0 0 Q (F0 m pc ls (.int x2 :: .int x1 :: rest)) :=
  va_mmax C.1 C.2.1 (C.2.2.1.trans hls.symm) C.2.2.2.1 (C.2.2.2.2.1 _ hl) (C.2.2.2.2.1 _ z_k626) (C.2.2.2.2.1 _ z_k15) (C.2.2.2.2.1 _ z_k627) hlev (by show _ + 13 ≤ 60 * lev; omega) (Nat.le_refl _) (Nat.le_refl _) hdg kk
theorem z_min (C : z_C E own cc nL A p s m args meth c) (hls : ls.size = nL) {index : Nat} (hl : Cond.methodLink own index yJ9_min_7cf53 ∈ z_wl) (hlev : 1 ≤ lev) (hrest : (rest.map fun v => v.category).sum ≤ 8) {x1 x2 : Int32} (hdg : decode cc pc = .ok (.invokestatic index, 3))
    (kk : W p l e (z_rm lev) s m args below meth c H locs 0 0 Q (F0 m (pc + 3) ls (.int (if x2 < x1 then x2 else x1) :: rest))) : W p l e (z_rm lev) s m args below meth c H locs 0 0 Q (F0 m pc ls (.int x2 :: .int x1 :: rest)) :=
  va_mmin C.1 C.2.1 (C.2.2.1.trans hls.symm) C.2.2.2.1 (C.2.2.2.2.1 _ hl) (C.2.2.2.2.1 _ z_k486) (C.2.2.2.2.1 _ z_k15) (C.2.2.2.2.1 _ z_k487) hlev (by show _ + 13 ≤ 60 * lev; omega) (Nat.le_refl _) (Nat.le_refl _) hdg kk
theorem z_runS2 {Qx : (Nat → Prop) → Array Value → State → Outcome → State → Prop} {As : List Value} {index k : Nat} (C : z_C E own cc nL A p s m args meth c) (hs : z_H E A s σ H locs) (hls : ls.size = nL) (hM : z_T l E y b n ret (z_rm j) Qx As σ) (cv : z_CS own index y b n ret k) (hlen : As.length = k) (hst : st = As.reverse ++ rest) (hj : j < lev) (hrest : (rest.map fun v => v.category).sum ≤ 8) (hdg : decode cc pc = .ok (.invokestatic index, 3)) :
    va_Run p l e (z_rm lev) s m args below meth c H locs 0 0 0 0 (F0 m pc ls st) rest (Qx (z_A E H.size) As.toArray) (z_A E H.size) := by
  obtain ⟨⟨w1, w2, w4, w5⟩, ⟨d1, d2, d3⟩, hn⟩ := cv
  have hp := z_preS C hs As
  refine va_runS (bytes := b) (maxL := n) (ret := ret) ⟨C.1, C.2.1, C.2.2.1, C.2.2.2.1, C.2.2.2.2.1⟩ (hM H.size) ⟨callB_of k C.2.2.2.2.1 (z_gin (fun w h => h) ?_) rfl rfl rfl (C.2.2.2.2.1 _ w4) (C.2.2.2.2.1 _ w1) ⟨d1, d2, d3⟩ (z_rmok hj hn), C.2.2.2.2.1 _ w2⟩ hp rfl hlen hls hst (lv_room hrest) hdg ⟨Nat.le_refl _, Nat.le_refl _⟩
  exact z_wsin (ws := []) w5 (fun w hw => by cases hw)
end z_rows3
