/-! calls by contract, in any room: for the law, for image, for the model's constructor -/
section zr_rows
variable {p : Program} {l : Launch} {e : Env} {R : Room} {s : State} {m : MethodId} {args : Array Value} {below : List Frame} {meth : Method} {c : Code} {H : Heap} {locs : List Loc} {Q : State → Prop} {cells slots : Nat}
variable {cc : ByteArray} {pc nL j : Nat} {ls : Array Slot} {rest st : List Value} {E : zE} {σ τ : zS} {A : Nat → Prop} {own : String} {y : MethodName} {b : ByteArray} {n : Nat} {ret : Option FieldType}
theorem zr_runV {Qx : (Nat → Prop) → Array Value → State → Outcome → State → Prop} {As : List Value} {a : zJ} {ci N index k : Nat} {T : u_T} {fs : List Value} (C : z_C E own cc nL A p s m args meth c) (hs : z_H E A s σ H locs) (hls : ls.size = nL) (hM : z_T l E y b n ret (z_rm j) Qx (.ref (z_ad E a) :: As) σ) (cv : z_CV own index y b n ret k) (ha : a ∈ z_ids E) (hce : z_cell E (σ.1 a) (σ.2 a) a = .inr (ci, fs)) (hc : z_cl[ci]? = some (y.cls, T, N)) (hlen : As.length = k) (hst : st = As.reverse ++ .ref (z_ad E a) :: rest) (hR : (z_rm j).frames + 1 ≤ R.frames ∧ 8 + (n + 11) + (z_rm j).locals ≤ R.locals) (hcs : cells ≤ R.cells ∧ slots ≤ R.slots) (hrest : (rest.map fun v => v.category).sum ≤ 8) (hdg : decode cc pc = .ok (.invokevirtual index, 3)) :
    va_Run p l e R s m args below meth c H locs cells slots 0 0 (F0 m pc ls st) rest (Qx (z_A E H.size) (Value.ref (z_ad E a) :: As).toArray) (z_A E H.size) := by
  obtain ⟨⟨w1, w2, w3, w4, w5⟩, ⟨d1, d2, d3⟩, hn⟩ := cv
  have hp := z_preS C hs (Value.ref (z_ad E a) :: As)
  obtain ⟨q0, -, he⟩ := z_at σ ha
  rw [hce] at he
  have hrv := va_recv C.2.2.2.2.2.1.1 hs.1 hc he
  refine va_runV (bytes := b) (maxL := n) (ret := ret) (C := y.cls) ⟨C.1, C.2.1, C.2.2.1, C.2.2.2.1, C.2.2.2.2.1⟩ (hM H.size) (cwV k C.2.2.2.2.1 (z_gin (fun w h => h) ?_) rfl rfl rfl ⟨rfl, d1, d2, d3⟩ hR) ⟨hp.1, hrv, hp.2⟩ rfl hlen hls hst (lv_room hrest) hdg ⟨hcs.1, hcs.2⟩
  refine z_wsin w5 (fun w hw => ?_)
  simp only [List.mem_cons, List.not_mem_nil, or_false] at hw
  rcases hw with rfl | rfl | rfl | rfl
  · exact w1
  · exact w2
  · exact w3
  · exact w4
theorem zr_goI {rv : Int32} {a : Array Value} (C : z_C E own cc nL A p s m args meth c) (hs : z_H E A s σ H locs) (hr : va_Run p l e R s m args below meth c H locs cells slots 0 0 (F0 m pc ls st) rest (z_QI E rv τ (z_A E H.size) a) (z_A E H.size))
    (kk : ∀ (H1 : Heap) (locs1 : List Loc), z_H E A s τ H1 locs1 → H.size ≤ H1.size → (∀ q : Nat, q < H.size → ¬ z_A E H.size q → H1[q]? = H[q]?) → W p l e R s m args below meth c H1 locs1 cells slots Q (F0 m (pc + 3) ls (.int rv :: rest))) : W p l e R s m args below meth c H locs cells slots Q (F0 m pc ls st) := by
  refine va_calli hr hs.2 (fun q _ h => z_freeA C hs q h) (z_freeA C hs) (fun r u t H1 locs1 ht _ hw hB hz hk hS => ?_)
  subst hw
  rw [ht] at hB
  exact kk H1 locs1 ⟨hB, hS⟩ hz hk
theorem zr_goV {a : Array Value} (C : z_C E own cc nL A p s m args meth c) (hs : z_H E A s σ H locs) (hr : va_Run p l e R s m args below meth c H locs cells slots 0 0 (F0 m pc ls st) rest (z_QV E () τ (z_A E H.size) a) (z_A E H.size))
    (kk : ∀ (H1 : Heap) (locs1 : List Loc), z_H E A s τ H1 locs1 → H.size ≤ H1.size → (∀ q : Nat, q < H.size → ¬ z_A E H.size q → H1[q]? = H[q]?) → W p l e R s m args below meth c H1 locs1 cells slots Q (F0 m (pc + 3) ls rest)) : W p l e R s m args below meth c H locs cells slots Q (F0 m pc ls st) := by
  refine va_callv hr hs.2 (fun q _ h => z_freeA C hs q h) (z_freeA C hs) (fun u t H1 locs1 ht _ hw hB hz hk hS => ?_)
  rw [ht] at hB
  exact kk H1 locs1 ⟨hB, hS⟩ hz hk
theorem zr_runS {Qx : (Nat → Prop) → Array Value → State → Outcome → State → Prop} {As : List Value} {index k : Nat} (C : z_C E own cc nL A p s m args meth c) (hs : z_H E A s σ H locs) (hls : ls.size = nL) (hM : z_T l E y b n ret (z_rm j) Qx As σ) (cv : z_CS own index y b n ret k) (hlen : As.length = k) (hst : st = As.reverse ++ rest) (hR : (z_rm j).frames + 1 ≤ R.frames ∧ 8 + (n + 11) + (z_rm j).locals ≤ R.locals) (hcs : cells ≤ R.cells ∧ slots ≤ R.slots) (hrest : (rest.map fun v => v.category).sum ≤ 8) (hdg : decode cc pc = .ok (.invokestatic index, 3)) :
    va_Run p l e R s m args below meth c H locs cells slots 0 0 (F0 m pc ls st) rest (Qx (z_A E H.size) As.toArray) (z_A E H.size) := by
  obtain ⟨⟨w1, w2, w4, w5⟩, ⟨d1, d2, d3⟩, hn⟩ := cv
  have hp := z_preS C hs As
  refine va_runS (bytes := b) (maxL := n) (ret := ret) ⟨C.1, C.2.1, C.2.2.1, C.2.2.2.1, C.2.2.2.2.1⟩ (hM H.size) ⟨callB_of k C.2.2.2.2.1 (z_gin (fun w h => h) ?_) rfl rfl rfl (C.2.2.2.2.1 _ w4) (C.2.2.2.2.1 _ w1) ⟨d1, d2, d3⟩ hR, C.2.2.2.2.1 _ w2⟩ hp rfl hlen hls hst (lv_room hrest) hdg ⟨hcs.1, hcs.2⟩
  exact z_wsin (ws := []) w5 (fun w hw => by cases hw)
end zr_rows
/-- the model's names, and the picture of a new model -/
def z_idM : List zJ := [(100, 0, 0), (101, 0, 0), (102, 0, 0), (103, 0, 0), (104, 0, 0), (105, 0, 0), (106, 0, 0), (107, 0, 0), (108, 0, 0), (109, 0, 0), (110, 0, 0), (111, 0, 0), (112, 0, 0), (113, 0, 0), (114, 0, 0), (115, 0, 0), (116, 0, 0)]
def z_EM (E : zE) (f : Nat → Nat) : zE := (E.1, fun a => f (a.1 - 100), z_cy E, z_idM, fun _ => none)
def z_sM : zS := (fun a => if a.1 = 100 then (fun k => if k = 8 then -1 else 0) else (fun _ => 0), fun _ _ => 0)
theorem z_EM_M (E : zE) (f : Nat → Nat) : z_M (z_EM E f) := by
  intro q h1 h2
  show ((q, 0, 0) : zJ) ∈ z_idM
  have : q = 100 ∨ q = 101 ∨ q = 102 ∨ q = 103 ∨ q = 104 ∨ q = 105 ∨ q = 106 ∨ q = 107 ∨ q = 108 ∨ q = 109 ∨ q = 110 ∨ q = 111 ∨ q = 112 ∨ q = 113 ∨ q = 114 ∨ q = 115 ∨ q = 116 := by omega
  rcases this with rfl | rfl | rfl | rfl | rfl | rfl | rfl | rfl | rfl | rfl | rfl | rfl | rfl | rfl | rfl | rfl | rfl <;> simp [z_idM]
