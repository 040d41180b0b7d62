/-! laws as they are read: where it ends, the reference's codes, the class's codes, what they say -/
abbrev PX : Type := Nat × List Int × Nat × (Nat → Nat → Int) × ((Nat → Int) → Int)
abbrev PR : Type := (Int × Int) ⊕ PX
def pB (r : PR) (f : PX → PR) : PR := match r with
  | .inl e => .inl e
  | .inr x => f x
def binX (op : Int) (x y : PX) : PX := (y.1, x.2.1 ++ (y.2.1 ++ [3000 + op]), x.2.2.1 + y.2.2.1 + 1, fun b j => if j < b + x.2.2.1 then x.2.2.2.1 b j else if j < b + x.2.2.1 + y.2.2.1 then y.2.2.2.1 (b + x.2.2.1) j else -8 - op, fun env => bop op (x.2.2.2.2 env) (y.2.2.2.2 env))
def notX (x : PX) : PX := (x.1, x.2.1 ++ [3006], x.2.2.1 + 1, fun b j => if j < b + x.2.2.1 then x.2.2.2.1 b j else -14, fun env => 1 - x.2.2.2.2 env)
def ifX (p : Nat) (t x y : PX) : PX := (p, t.2.1 ++ (x.2.1 ++ (y.2.1 ++ [3009])), t.2.2.1 + x.2.2.1 + y.2.2.1 + 4,
  fun b j => if j < b + t.2.2.1 then t.2.2.2.1 b j else if j = b + t.2.2.1 then -18 else if j = b + t.2.2.1 + 1 then ((b + t.2.2.1 + x.2.2.1 + 4 : Nat) : Int)
    else if j < b + t.2.2.1 + x.2.2.1 + 2 then x.2.2.2.1 (b + t.2.2.1 + 2) j else if j = b + t.2.2.1 + x.2.2.1 + 2 then -17 else if j = b + t.2.2.1 + x.2.2.1 + 3 then ((b + t.2.2.1 + x.2.2.1 + y.2.2.1 + 4 : Nat) : Int)
    else y.2.2.2.1 (b + t.2.2.1 + x.2.2.1 + 4) j,
  fun env => if t.2.2.2.2 env = 1 then x.2.2.2.2 env else y.2.2.2.2 env)
def wdO (k : Int) : Int := if k = 6 then 5 else if k = 8 then 2 else if k = 10 then 6 else if k = 17 then 0 else if k = 18 then 1 else if k = 19 then 3 else if k = 20 then 4 else -1
def opS (k : Int) : Int := if k = 34 then 2 else -1
def opA (k : Int) : Int := if k = 32 then 0 else if k = 33 then 1 else -1
def opN (k : Int) : Int := if k = 21 then 7 else -1
def opO (k : Int) : Int := if k = 22 then 8 else -1
def opC (k : Int) : Int := if k = 39 then 3 else if k = 40 then 4 else if k = 41 then 5 else -1
section PA
variable (T : Nat → Int) (N : Nat)
def pF (p : Nat) (k : Int) : PR := .inl (if tkK T N p = 27 then 1 else k, (tkS T N p : Int))
def pW (x : PX) (k : Int) : PR := if tkK T N x.1 = k then .inr (tkE T N x.1, x.2) else pF T N x.1 2
def binL (A : Nat → PR) (op : Int → Int) : Nat → PX → PR
  | 0, x => .inr x
  | m + 1, x => if op (tkK T N x.1) = -1 then .inr x else pB (A (tkE T N x.1)) (fun y => binL A op m (binX (op (tkK T N x.1)) x y))
def atF (I : Option (Nat → Nat → PR)) (p : Nat) : PR :=
  if tkK T N p = 25 then .inr (tkE T N p, [tkN T N p 0], 1, fun _ _ => tkN T N p 0, fun _ => tkN T N p 0)
  else if wdO (tkK T N p) ≠ -1 then .inr (tkE T N p, [1000 + wdO (tkK T N p)], 1, fun _ _ => -1 - wdO (tkK T N p), fun env => env (wdO (tkK T N p)).toNat)
  else if tkK T N p = 35 then (match I with
    | none => pF T N p 4
    | some J => pB (J 0 (tkE T N p)) (fun x => pW T N x 36))
  else if tkK T N p = 13 then (match I with
    | none => pF T N p 4
    | some J => pB (J 2 (tkE T N p)) (fun t => pB (pW T N t 14) (fun t2 => pB (J 0 t2.1) (fun x => pB (pW T N x 15) (fun x2 => pB (J 0 x2.1) (fun y => pB (pW T N y 16) (fun y2 => .inr (ifX y2.1 t x y))))))))
  else pF T N p 2
def teF (I : Option (Nat → Nat → PR)) (p : Nat) : PR := pB (atF T N I p) (binL T N (atF T N I) opS 900)
def suF (I : Option (Nat → Nat → PR)) (p : Nat) : PR := pB (teF T N I p) (binL T N (teF T N I) opA 900)
def unF (I : Option (Nat → Nat → PR)) (p : Nat) : PR :=
  if tkK T N p = 23 then (match I with
    | none => pF T N p 4
    | some J => pB (J 1 (tkE T N p)) (fun x => .inr (notX x)))
  else if tkK T N p = 37 then (match I with
    | none => pF T N p 4
    | some J => pB (J 2 (tkE T N p)) (fun x => pW T N x 38))
  else pB (suF T N I p) (fun x => if opC (tkK T N x.1) = -1 then pF T N x.1 2 else pB (suF T N I (tkE T N x.1)) (fun y => .inr (binX (opC (tkK T N x.1)) x y)))
def boF (I : Option (Nat → Nat → PR)) (p : Nat) : PR := pB (unF T N I p) (binL T N (unF T N I) opN 900)
def trF (I : Option (Nat → Nat → PR)) (p : Nat) : PR := pB (boF T N I p) (binL T N (boF T N I) opO 900)
def mdF (I : Option (Nat → Nat → PR)) (m p : Nat) : PR := if m = 0 then suF T N I p else if m = 1 then unF T N I p else trF T N I p
def lvP : Nat → Nat → Nat → PR
  | 0 => mdF T N none
  | k + 1 => mdF T N (some (lvP k))
end PA
def okC (env c : Nat → Int) (n : Nat) (v : Int) (b : Nat) (s : List Int) : Prop := ∀ m, n ≤ b + m → runC env c n m b s = some v
/-- a piece that was read well: from p on, with so many on the stack, a truth or a number -/
def gdX (N nd : Nat) (tv : Bool) (p : Nat) (x : PX) : Prop := p < x.1 ∧ x.1 ≤ N ∧ p + x.2.2.1 ≤ x.1 ∧ p + x.2.1.length ≤ x.1 ∧ ∀ env, wdB env → wb (x.2.2.2.2 env) ∧ (tv = true → x.2.2.2.2 env = 0 ∨ x.2.2.2.2 env = 1) ∧ (∀ rest s, runR env (x.2.1 ++ rest) s = runR env rest (x.2.2.2.2 env :: s)) ∧
  ∀ (c : Nat → Int) (n b : Nat) (s : List Int) (v : Int), (∀ j, b ≤ j → j < b + x.2.2.1 → c j = x.2.2.2.1 b j) → b + x.2.2.1 ≤ n → s.length + nd ≤ 64 → okC env c n v (b + x.2.2.1) (x.2.2.2.2 env :: s) → okC env c n v b s
section PG
variable {T : Nat → Int} {N nd nd2 p q : Nat} {tv tv2 : Bool} {x y t : PX}
theorem okC.step {env c : Nat → Int} {n b b' : Nat} {v : Int} {s s' : List Int} (hb : b < n) (hb' : b < b') (e : stepC env c n b s = some (b', s')) (h : okC env c n v b' s') : okC env c n v b s := by
  intro m hm
  match m, hm with
  | 0, hm => omega
  | m + 1, hm =>
    simp only [runC]
    rw [if_neg (by omega), e]
    exact h m (by omega)
theorem gdX.need (g : gdX N nd tv p x) (h : nd ≤ nd2) : gdX N nd2 tv p x := ⟨g.1, g.2.1, g.2.2.1, g.2.2.2.1, fun env he => by
  obtain ⟨a, b, c, e⟩ := g.2.2.2.2 env he
  exact ⟨a, b, c, fun c n b s v h1 h2 h3 h4 => e c n b s v h1 h2 (by omega) h4⟩⟩
theorem gdX.num (g : gdX N nd tv p x) : gdX N nd false p x := ⟨g.1, g.2.1, g.2.2.1, g.2.2.2.1, fun env he => by
  obtain ⟨a, b, c, e⟩ := g.2.2.2.2 env he
  exact ⟨a, fun z => by simp at z, c, e⟩⟩
/-- goes behind another token -/
theorem gdX.on (g : gdX N nd tv p x) (hq : q ≤ p) (hk : tkK T N x.1 ≠ 26) : gdX N nd tv q (tkE T N x.1, x.2) := by
  have := tk_gt (T := T) g.2.1 hk
  obtain ⟨g1, g2, g3, g4, g5⟩ := g
  exact ⟨by simp only; omega, by simp only; omega, by simp only; omega, by simp only; omega, g5⟩
theorem gdX.bin {op : Int} (g : gdX N nd tv p x) (g' : gdX N nd2 tv2 q y) (hq : x.1 < q) (hn : nd2 + 1 ≤ nd) (ho : 0 ≤ op ∧ op ≤ 8 ∧ op ≠ 6) (h7 : 7 ≤ op → tv = true ∧ tv2 = true) : gdX N nd (decide (3 ≤ op)) p (binX op x y) := by
  obtain ⟨g1, g2, g3, g4, g5⟩ := g
  obtain ⟨k1, k2, k3, k4, k5⟩ := g'
  refine ⟨by simp only [binX]; omega, by simp only [binX]; omega, by simp only [binX]; omega, by simp only [binX, List.length_append, List.length_singleton]; omega, fun env he => ?_⟩
  obtain ⟨a1, a2, a3, a4⟩ := g5 env he
  obtain ⟨b1, b2, b3, b4⟩ := k5 env he
  refine ⟨bop_b _ _ _, fun z => ?_, fun rest s => ?_, fun c n b s v h1 h2 h3 h4 => ?_⟩
  · have z := of_decide_eq_true z
    simp only [binX, bop]
    rw [if_neg (by omega), if_neg (by omega), if_neg (by omega)]
    repeat' split
    all_goals omega
  · simp only [binX]
    rw [List.append_assoc, a3, List.append_assoc, b3]
    simp only [List.cons_append, List.nil_append, runR, stepR]
    rw [if_neg (by omega), if_neg (by omega), if_neg (by omega)]
    by_cases c7 : 3000 + op = 3007 ∨ 3000 + op = 3008
    · rw [if_pos c7]
      have t1 := a2 (h7 (by omega)).1
      have t2 := b2 (h7 (by omega)).2
      rw [if_pos ⟨t1, t2⟩, show 3000 + op - 3000 = op by omega]
    · rw [if_neg c7, if_pos (by omega), show 3000 + op - 3000 = op by omega]
  · simp only [binX] at h1 h2 h4 ⊢
    refine a4 c n b s v (fun j j1 j2 => by rw [h1 j j1 (by omega), if_pos j2]) (by omega) h3 ?_
    refine b4 c n (b + x.2.2.1) _ v (fun j j1 j2 => by rw [h1 j (by omega) (by omega), if_neg (by omega), if_pos (by omega)]) (by omega) (by simp only [List.length_cons]; omega) ?_
    have cc := h1 (b + x.2.2.1 + y.2.2.1) (by omega) (by omega)
    rw [if_neg (by omega), if_neg (by omega)] at cc
    refine okC.step (b' := b + (x.2.2.1 + y.2.2.1 + 1)) (s' := bop op (x.2.2.2.2 env) (y.2.2.2.2 env) :: s) (by omega) (by omega) ?_ h4
    simp only [stepC, cc]
    rw [if_neg (by omega), if_neg (by omega), if_neg (by omega), if_neg (by omega), if_pos (by omega), show -8 - (-8 - op) = op by omega, show b + (x.2.2.1 + y.2.2.1 + 1) = b + x.2.2.1 + y.2.2.1 + 1 by omega]
theorem gdX.not (g : gdX N nd true p x) (hq : q < p) (hn : 1 ≤ nd) : gdX N nd true q (notX x) := by
  obtain ⟨g1, g2, g3, g4, g5⟩ := g
  refine ⟨by simp only [notX]; omega, by simp only [notX]; omega, by simp only [notX]; omega, by simp only [notX, List.length_append, List.length_singleton]; omega, fun env he => ?_⟩
  obtain ⟨a1, a2, a3, a4⟩ := g5 env he
  have t1 := a2 rfl
  refine ⟨by simp only [notX]; unfold wb; omega, fun _ => by simp only [notX]; omega, fun rest s => ?_, fun c n b s v h1 h2 h3 h4 => ?_⟩
  · simp only [notX]
    rw [List.append_assoc, a3]
    simp only [List.cons_append, List.nil_append, runR, stepR]
    rw [if_neg (by omega), if_pos trivial, if_pos t1]
  · simp only [notX] at h1 h2 h4 ⊢
    refine a4 c n b s v (fun j j1 j2 => by rw [h1 j j1 (by omega), if_pos j2]) (by omega) h3 ?_
    have cc := h1 (b + x.2.2.1) (by omega) (by omega)
    rw [if_neg (by omega)] at cc
    refine okC.step (b' := b + (x.2.2.1 + 1)) (s' := (1 - x.2.2.2.2 env) :: s) (by omega) (by omega) ?_ h4
    simp only [stepC, cc]
    rw [if_neg (by omega), if_neg (by omega), if_neg (by omega), if_pos trivial, if_pos t1, show b + (x.2.2.1 + 1) = b + x.2.2.1 + 1 by omega]
theorem gdX.if_ {p1 p2 p3 pe : Nat} (gt : gdX N nd true p1 t) (gx : gdX N nd2 false p2 x) (gy : gdX N nd2 false p3 y) (h1 : p < p1) (h2 : t.1 < p2) (h3 : x.1 < p3) (h4 : y.1 < pe) (h5 : pe ≤ N) (hn : nd2 ≤ nd) : gdX N nd false p (ifX pe t x y) := by
  obtain ⟨t1, t2, t3, t4, t5⟩ := gt
  obtain ⟨x1, x2, x3, x4, x5⟩ := gx
  obtain ⟨y1, y2, y3, y4, y5⟩ := gy
  refine ⟨by simp only [ifX]; omega, by simp only [ifX]; omega, by simp only [ifX]; omega, by simp only [ifX, List.length_append, List.length_singleton]; omega, fun env he => ?_⟩
  obtain ⟨a1, a2, a3, a4⟩ := t5 env he
  obtain ⟨b1, b2, b3, b4⟩ := x5 env he
  obtain ⟨c1, c2, c3, c4⟩ := y5 env he
  have tt := a2 rfl
  refine ⟨by simp only [ifX]; split <;> assumption, fun z => by simp at z, fun rest s => ?_, fun c n b s v k1 k2 k3 k4 => ?_⟩
  · simp only [ifX]
    rw [List.append_assoc, a3, List.append_assoc, b3, List.append_assoc, c3]
    simp only [List.cons_append, List.nil_append, runR, stepR]
    rw [if_neg (by omega), if_neg (by omega), if_pos trivial]
  · simp only [ifX] at k1 k2 k4 ⊢
    refine a4 c n b s v (fun j j1 j2 => by rw [k1 j j1 (by omega), if_pos j2]) (by omega) k3 ?_
    have e1 := k1 (b + t.2.2.1) (by omega) (by omega)
    have e2 := k1 (b + t.2.2.1 + 1) (by omega) (by omega)
    have e3 := k1 (b + t.2.2.1 + x.2.2.1 + 2) (by omega) (by omega)
    have e4 := k1 (b + t.2.2.1 + x.2.2.1 + 3) (by omega) (by omega)
    rw [if_neg (by omega), if_pos rfl] at e1
    rw [if_neg (by omega), if_neg (by omega), if_pos rfl] at e2
    rw [if_neg (by omega), if_neg (by omega), if_neg (by omega), if_neg (by omega), if_pos rfl] at e3
    rw [if_neg (by omega), if_neg (by omega), if_neg (by omega), if_neg (by omega), if_neg (by omega), if_pos rfl] at e4
    have s1 : stepC env c n (b + t.2.2.1) (t.2.2.2.2 env :: s) = some (if t.2.2.2.2 env = 0 then b + t.2.2.1 + x.2.2.1 + 4 else b + t.2.2.1 + 2, s) := by
      simp only [stepC, e1, e2]
      rw [if_neg (by omega), if_neg (by omega), if_pos trivial, if_pos (by omega), Int.toNat_natCast]
    rcases tt with q | q
    · rw [if_neg (by omega)] at k4
      rw [if_pos q] at s1
      refine okC.step (by omega) (by omega) s1 ?_
      refine c4 c n _ s v (fun j j1 j2 => by rw [k1 j (by omega) (by omega), if_neg (by omega), if_neg (by omega), if_neg (by omega), if_neg (by omega), if_neg (by omega), if_neg (by omega)]) (by omega) (by omega) ?_
      rw [show b + t.2.2.1 + x.2.2.1 + 4 + y.2.2.1 = b + (t.2.2.1 + x.2.2.1 + y.2.2.1 + 4) by omega]
      exact k4
    · rw [if_pos q] at k4
      rw [if_neg (by omega)] at s1
      refine okC.step (by omega) (by omega) s1 ?_
      refine b4 c n _ s v (fun j j1 j2 => by rw [k1 j (by omega) (by omega), if_neg (by omega), if_neg (by omega), if_neg (by omega), if_pos (by omega)]) (by omega) (by omega) ?_
      rw [show b + t.2.2.1 + 2 + x.2.2.1 = b + t.2.2.1 + x.2.2.1 + 2 by omega]
      refine okC.step (b' := b + (t.2.2.1 + x.2.2.1 + y.2.2.1 + 4)) (s' := x.2.2.2.2 env :: s) (by omega) (by omega) ?_ k4
      rw [show b + t.2.2.1 + x.2.2.1 + 3 = b + t.2.2.1 + x.2.2.1 + 2 + 1 by omega] at e4
      simp only [stepC, e3, e4]
      rw [if_neg (by omega), if_pos trivial, if_pos (by omega), Int.toNat_natCast]
      rw [show b + t.2.2.1 + x.2.2.1 + y.2.2.1 + 4 = b + (t.2.2.1 + x.2.2.1 + y.2.2.1 + 4) by omega]
theorem pB_inr {r : PR} {f : PX → PR} {z : PX} (h : pB r f = .inr z) : ∃ x, r = .inr x ∧ f x = .inr z := by
  cases r with
  | inl e => simp [pB] at h
  | inr x => exact ⟨x, rfl, h⟩
theorem pW_inr {k : Int} {z : PX} (h : pW T N x k = .inr z) : tkK T N x.1 = k ∧ z = (tkE T N x.1, x.2) := by
  unfold pW pF at h
  split at h
  · rename_i c
    simp only [Sum.inr.injEq] at h
    exact ⟨c, h.symm⟩
  · simp at h
end PG
