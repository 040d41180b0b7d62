/-! frames: what a run leaves as it was -/
def fr (L : List Nat) (F : List (Nat × Nat)) (h g : am_H) : Prop := g.1 = h.1 ∧ g.2.1 = h.2.1 ∧ g.2.2.1 = h.2.2.1 ∧ ∀ a k, a ∉ L → (a, k) ∉ F → g.2.2.2 a k = h.2.2.2 a k
section FR
variable {L M : List Nat} {F G : List (Nat × Nat)} {h g k : am_H}
theorem fr.rfl : fr L F h h := ⟨_root_.rfl, _root_.rfl, _root_.rfl, fun _ _ _ _ => _root_.rfl⟩
theorem fr.trans (p : fr L F h g) (q : fr L F g k) : fr L F h k := ⟨q.1.trans p.1, q.2.1.trans p.2.1, q.2.2.1.trans p.2.2.1, fun a j hL hF => (q.2.2.2 a j hL hF).trans (p.2.2.2 a j hL hF)⟩
theorem fr.mono (p : fr L F h g) (h1 : ∀ a ∈ L, a ∈ M) (h2 : ∀ q ∈ F, q.1 ∈ M ∨ q ∈ G) : fr M G h g := ⟨p.1, p.2.1, p.2.2.1, fun a j hL hF => p.2.2.2 a j (fun x => hL (h1 a x)) (fun x => by
  rcases h2 _ x with y | y
  · exact hL y
  · exact hF y)⟩
theorem fr.c (p : fr L F h g) (a : Nat) (h1 : a ∉ L) (h2 : ∀ q ∈ F, q.1 ≠ a) : g.2.2.2 a = h.2.2.2 a := funext fun j => p.2.2.2 a j h1 (fun x => h2 _ x _root_.rfl)
theorem fr.f (p : fr L F h g) (a j : Nat) (h1 : a ∉ L) (h2 : (a, j) ∉ F) : g.2.2.2 a j = h.2.2.2 a j := p.2.2.2 a j h1 h2
theorem fr.put {a j : Nat} {x : Int} (p : fr L F h g) (h1 : a ∈ L ∨ (a, j) ∈ F) : fr L F h (am_put g a j x) := ⟨p.1, p.2.1, p.2.2.1, fun b i hL hF => by
  rw [put_at, if_neg (fun e => ?_)]
  · exact p.2.2.2 b i hL hF
  · rcases h1 with y | y
    · exact hL (e.1 ▸ y)
    · exact hF (by rw [e.1, e.2]; exact y)⟩
theorem fr.cpy {a b sp dp n : Nat} (p : fr L F h g) (h1 : b ∈ L) : fr L F h (am_cpy g a b sp dp n) := ⟨p.1, p.2.1, p.2.2.1, fun c i hL hF => by
  show (if c = b ∧ dp ≤ i ∧ i < dp + n then _ else g.2.2.2 c i) = _
  rw [if_neg (fun (e : c = b ∧ dp ≤ i ∧ i < dp + n) => hL (e.1 ▸ h1))]
  exact p.2.2.2 c i hL hF⟩
theorem fr.wf (p : fr L F h g) (hw : wf h) (h1 : ∀ q ∈ wr_l, q.1 ∉ L ∧ (q.1, q.2.1) ∉ F) : wf g := ⟨by rw [p.1]; exact hw.1, fun i hi => by rw [p.2.2.1]; exact hw.2.1 i hi, fun q hq => by
  rw [p.2.2.2 _ _ (h1 q hq).1 (h1 q hq).2]
  exact hw.2.2 q hq⟩
end FR
theorem put_eq {h : am_H} {a k : Nat} {x : Int} : (am_put h a k x).2.2.2 a k = x := if_pos ⟨rfl, rfl⟩
theorem put_ne {h : am_H} {a k b j : Nat} {x : Int} (e : ¬ (b = a ∧ j = k)) : (am_put h a k x).2.2.2 b j = h.2.2.2 b j := if_neg e
theorem put_c {h : am_H} {a k b : Nat} {x : Int} (e : b ≠ a) : (am_put h a k x).2.2.2 b = h.2.2.2 b := funext fun _ => if_neg (fun q => e q.1)
