/-! what holds of a world: what a follower has acknowledged; entries of the leader -/
section inv12
variable {W : yW} {k : Nat} {L : Nat → Nat → Nat} {len lead : Nat → Nat} {E V : Nat → Nat → Nat} {C : Nat → Nat → Nat → Nat} {cl ack G : Nat → Nat → Nat}
theorem i_ack {n : Nat} (hr : W.1 (10, 0, k) 4 ≠ 2) (hn : n ≤ len (W.1 (10, 0, k) 2)) (h7 : n ≤ W.1 (10, 0, k) 7) (hG : ∀ i, i ≤ n → G k i = L (W.1 (10, 0, k) 2) i) (g : xG (xV W 0) L len lead E V C cl ack G) : ∃ ack', xG (xV W 0) L len lead E V C cl ack' G ∧ n ≤ ack' k (W.1 (10, 0, k) 2) := by
  obtain ⟨ack', F, A, x, q⟩ := yAck (v := k) (t := W.1 (10, 0, k) 2) (n := n) g.1 g.2.1 rfl hr hn h7 hG
  exact ⟨ack', ⟨F, A, fun s hs => yLt_mono (E := E) (S := xV W 0 17) (G := G) (fun _ _ => rfl) x g.1 g.2.1 (g.2.2.1 s hs), g.2.2.2⟩, q⟩
/-- two logs that have the same term at an entry have the same terms up to it -/
theorem y_same {N : Nat} {K S : Nat → Nat → Nat} {v t e : Nat} (F : ySf N K L len lead E V C cl ack) (A : ySk N K S L len lead E V C cl ack G v) (e1 : 1 ≤ e) (e2 : e ≤ K v 7) (e3 : e ≤ len t) (h : G v e = L t e) : ∀ i, i ≤ e → G v i = L t i := fun i hi => by
  have a := (A.2.1 e e1 e2).2.2.2.2 i hi
  have b := (F.2.1 t e e1 e3).2.2.2.2 i hi
  rw [a, b, h]
/-- what is done is the leader's -/
theorem i_done (hk : k < W.1 (0, 0, 0) 3) (hl : lead (W.1 (10, 0, k) 2) ≠ 0) (g : xG (xV W 0) L len lead E V C cl ack G) : W.1 (10, 0, k) 8 ≤ len (W.1 (10, 0, k) 2) ∧ ∀ i, i ≤ W.1 (10, 0, k) 8 → G k i = L (W.1 (10, 0, k) 2) i := by
  have sk := g.2.1 k hk
  exact yDone g.1 g.2.1 hl sk.2.2.2.2.2.1 sk.1.2.2
/-- the premises of m_deliver on what is done and on the letter's entries, with Lf the log of the letter's term -/
theorem i_hD {s : Nat} (hs : s < 40) (hr : W.1 (20, 0, s) 2 < W.1 (0, 0, 0) 3) (h3 : W.1 (20, 0, s) 0 = 3) (ht : W.1 (10, 0, W.1 (20, 0, s) 2) 2 ≤ W.1 (20, 0, s) 3) (g : xG (xV W 0) L len lead E V C cl ack G) : ∀ e, W.1 (10, 0, W.1 (20, 0, s) 2) 5 < e → e ≤ W.1 (10, 0, W.1 (20, 0, s) 2) 8 → sTm W (W.1 (20, 0, s) 2) e = L (W.1 (20, 0, s) 3) e := by
  intro e e1 e2
  have lt := (g.2.2.1 s hs).2.2.2.2.1 h3
  have hl : lead (W.1 (20, 0, s) 3) ≠ 0 := lt.1
  have sk := g.2.1 _ hr
  have cp : yCP (W.1 (0, 0, 0) 3) (xV W 0 10) L len ack (G (W.1 (20, 0, s) 2)) (W.1 (20, 0, s) 3) (W.1 (10, 0, W.1 (20, 0, s) 2) 8) := yCP_mono (fun _ _ => rfl) (fun _ _ _ => rfl) (fun _ => Nat.le_refl _) (fun _ _ => Nat.le_refl _) (fun _ _ => rfl) ht (Nat.le_refl _) sk.2.2.2.2.2.1
  have d := (yDone g.1 g.2.1 hl cp sk.1.2.2).2 e e2
  have ln := g.2.2.2 _ hr e (by show W.1 (10, 0, W.1 (20, 0, s) 2) 5 ≤ e; omega) (by have := sk.1.2.1; have e2' : e ≤ xV W 0 10 (W.1 (20, 0, s) 2) 8 := e2; omega)
  exact ln.trans d
theorem i_hL {s : Nat} (hs : s < 40) (h3 : W.1 (20, 0, s) 0 = 3) (g : xG (xV W 0) L len lead E V C cl ack G) : ∀ j, j < W.1 (20, 0, s) 6 → W.1 (21, 0, s) (6 * j) = L (W.1 (20, 0, s) 3) (W.1 (20, 0, s) 4 + 1 + j) := fun j hj => ((g.2.2.1 s hs).2.2.2.2.1 h3).2.2.2.2.1 j hj
end inv12
