/-! which names are there -/
def z_M (E : zE) : Prop := ∀ q : Nat, 100 ≤ q → q ≤ 116 → ((q, 0, 0) : zJ) ∈ z_ids E
def z_B (E : zE) : Prop := ∀ q : Nat, 30 ≤ q → (q ≤ 37 ∨ (40 ≤ q ∧ q ≤ 47)) → ((q, 0, 0) : zJ) ∈ z_ids E
def z_W (E : zE) (w : Nat) : Prop := (∀ q : Nat, q ≤ 8 → ((q, w, 0) : zJ) ∈ z_ids E) ∧ (∀ i : Nat, i < 7 → ∀ q : Nat, 10 ≤ q → q ≤ 19 → ((q, w, i) : zJ) ∈ z_ids E) ∧ (∀ i : Nat, i < 41 → ∀ q : Nat, 20 ≤ q → q ≤ 23 → ((q, w, i) : zJ) ∈ z_ids E)
def z_St (E : zE) (a : zJ) : Prop := z_isS a ∧ a ∈ z_ids E ∧ z_nx a ∈ z_ids E
/-- a letter's number, or none -/
def z_om {β : Type} (o : Option Nat) (x : β) (f : Nat → β) : β := match o with
  | none => x
  | some i => f i
abbrev z_QL (E : zE) (w : Nat) (ro : Option Nat) (σo : zS) (A : Nat → Prop) : Array Value → State → Outcome → State → Prop := va_Qq (S := Unit) (fun r _ => r = ro.map (fun i => z_ad E (20, w, i)) ∧ ∀ i : Nat, ro = some i → i < 41) (fun _ t => va_P E.1 z_cl (z_ws E σo) t.heap) A
theorem z_ne {x k : Int32} {n : Int} (hk : k.toInt = n) (h : ¬ x = k) : x.toInt ≠ n := fun e => h (Int32.toInt_inj.mp (e.trans hk.symm))
section z_rows2
variable {p : Program} {l : Launch} {e : Env} {s : State} {m : MethodId} {args : Array Value} {below : List Frame} {meth : Method} {c : Code} {H : Heap} {locs : List Loc} {Q : State → Prop}
variable {cc : ByteArray} {pc nL lev j : Nat} {ls : Array Slot} {rest st : List Value} {E : zE} {σ τ : zS} {A : Nat → Prop} {own : String} {y : MethodName} {b : ByteArray} {n : Nat} {ret : Option FieldType}
theorem z_goL {w : Nat} {ro : Option Nat} {a : Array Value} (C : z_C E own cc nL A p s m args meth c) (hs : z_H E A s σ H locs) (hr : va_Run p l e (z_rm lev) s m args below meth c H locs 0 0 0 0 (F0 m pc ls st) rest (z_QL E w ro τ (z_A E H.size) a) (z_A E H.size))
    (kk : ∀ (H : Heap) (locs : List Loc), (∀ i : Nat, ro = some i → i < 41) → z_H E A s τ H locs → W p l e (z_rm lev) s m args below meth c H locs 0 0 Q (F0 m (pc + 3) ls (va_rf (ro.map (fun i => z_ad E (20, w, i))) :: rest))) : W p l e (z_rm lev) s m args below meth c H locs 0 0 Q (F0 m pc ls st) := by
  refine va_callq hr hs.2 (fun q _ h => z_freeA C hs q h) (z_freeA C hs) (fun r u t H1 locs1 ht _ hw hB _ _ hS => ?_)
  obtain ⟨hw1, hw2⟩ := hw
  subst hw1
  rw [ht] at hB
  exact kk H1 locs1 hw2 ⟨hB, hS⟩
theorem z_retl {w : Nat} {ro r : Option Nat} {σo : zS} {R : Room} {rt : String} {v : Value} (C : z_C E own cc nL A p s m args meth c) (hr : meth.sig.returnType = some (.object rt)) (hs : z_H E A s σ H locs) (hv : v = va_rf (r.map (fun i => z_ad E (20, w, i)))) (hi : ∀ i : Nat, r = some i → i < 41) (hf : some (r, σ) = some (ro, σo)) (hdg : decode cc pc = .ok (.areturn, 1)) : W p l e R s m args below meth c H locs 0 0 (MQ below (z_QL E w ro σo A) args s 0 0 A) (F0 m pc ls [v]) := by
  cases hf
  subst hv
  exact W.aret C.1 C.2.1 hr (Or.inl ⟨_, rfl⟩) (va_rf_or _) (fun t ht _ => ⟨⟨_, (), rfl, ⟨rfl, hi⟩, z_hp ht hs⟩, hs.2.F ht⟩) hs.2.2.2 hdg C.2.2.2.2.2.2.2.2
end z_rows2
