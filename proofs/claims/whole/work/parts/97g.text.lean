/-! a text as it is read -/
abbrev PE : Type := Int × Int
def eB {α β : Type} (r : PE ⊕ α) (f : α → PE ⊕ β) : PE ⊕ β := match r with
  | .inl e => .inl e
  | .inr x => f x
def up (a : Nat → Int) (k : Nat) (v : Int) : Nat → Int := fun j => if j = k then v else a j
theorem up_eq {a : Nat → Int} {k : Nat} {v : Int} : up a k v k = v := if_pos rfl
theorem up_ne {a : Nat → Int} {k j : Nat} {v : Int} (h : j ≠ k) : up a k v j = a j := if_neg h
/-- a draft: the reference's row; for each law how many codes the class has, which, what they say -/
abbrev DS : Type := (Nat → Int) × (Nat → Nat × (Nat → Int) × ((Nat → Int) → Int))
def btL (a : Nat → Int) (b : Int) : Nat → Nat → Int
  | 0, _ => 0
  | m + 1, s => if (s : Int) < a 4 then (if a (16 + s) = b then 1 else btL a b m (s + 1)) else 0
def apC (a : Nat → Int) (r : List Int) : Nat → Int := fun j => if 212 + (a 211).toNat ≤ j ∧ j < 212 + (a 211).toNat + r.length then r.getD (j - (212 + (a 211).toNat)) 0 else if j = 211 then (((a 211).toNat + r.length : Nat) : Int) else a j
section TXT
variable (T : Nat → Int) (N : Nat)
def eF (p : Nat) (k : Int) : PE := (if tkK T N p = 27 then 1 else k, (tkS T N p : Int))
def wN (p : Nat) (k : Int) : PE ⊕ Nat := if tkK T N p = k then .inr (tkE T N p) else .inl (eF T N p 2)
def nN (p : Nat) (lo hi : Int) : PE ⊕ (Int × Nat) := if tkK T N p = 25 then (if lo ≤ tkN T N p 0 ∧ tkN T N p 0 ≤ hi then .inr (tkN T N p 0, tkE T N p) else .inl (eF T N p 3)) else .inl (eF T N p 2)
def lawS (ds : DS) (i : Nat) (x : PX) : DS := (up (up (up (apC ds.1 x.2.1) (6 + i) 1) (8 + i) (ds.1 211)) (10 + i) (x.2.1.length : Int), fun k => if k = i then (x.2.2.1, x.2.2.2.1 0, x.2.2.2.2) else ds.2 k)
def slS (ds : DS) (bd dr : Int) : DS := (up (up (up ds.1 (16 + (ds.1 4).toNat) bd) (22 + (ds.1 4).toNat) dr) 4 (ds.1 4 + 1), ds.2)
def bodyF (ds : DS) (p : Nat) : PE ⊕ (DS × Nat) :=
  if tkK T N p = 4 then (if ds.1 4 = ds.1 1 then .inl (eF T N p 4) else
    eB (wN T N (tkE T N p) 5) (fun p1 => if tkK T N p1 = 25 ∧ btL ds.1 (tkN T N p1 0) 6 0 = 1 then .inl (eF T N p1 3) else
      eB (nN T N p1 0 (ds.1 1 - 1)) (fun b => eB (wN T N b.2 6) (fun p3 => eB (nN T N p3 0 9) (fun r => .inr (slS ds b.1 r.1, r.2))))))
  else if tkK T N p = 7 then eB (nN T N (tkE T N p) 0 (ds.1 4 - 1)) (fun l => eB (wN T N l.2 8) (fun p2 => eB (nN T N p2 0 (ds.1 2 - 1)) (fun r => .inr ((up (up ds.1 12 l.1) 13 r.1, ds.2), r.2))))
  else if tkK T N p = 9 then eB (nN T N (tkE T N p) 0 (ds.1 2 - 1)) (fun r => .inr ((up ds.1 5 r.1, ds.2), r.2))
  else if tkK T N p = 10 then eB (nN T N (tkE T N p) 0 9) (fun r => .inr ((up ds.1 28 r.1, ds.2), r.2))
  else if tkK T N p = 11 then eB (wN T N (tkE T N p) 31) (fun p1 => eB (lawF T N p1) (fun x => .inr (lawS ds 0 x, x.1)))
  else if tkK T N p = 12 then eB (wN T N (tkE T N p) 31) (fun p1 => eB (lawF T N p1) (fun x => .inr (lawS ds 1 x, x.1)))
  else .inl (eF T N p 2)
def closF (r : DS × Nat) : PE ⊕ (DS × Nat) := eB (wN T N r.2 30) (fun p => .inr ((up r.1.1 0 (r.1.1 0 + 1), r.1.2), p))
def lineF (ds : DS) (p : Nat) : PE ⊕ (DS × Nat) := eB (bodyF T N ds p) (closF T N)
def linesF : Nat → DS × Nat → PE ⊕ DS
  | 0, r => .inr r.1
  | m + 1, r => if tkK T N r.2 = 26 then .inr r.1 else eB (lineF T N r.1 r.2) (linesF m)
def row0 (j : Nat) : Int := if j = 1 ∨ j = 2 ∨ j = 3 then 1 else 0
def ds0 : DS := (row0, fun _ => (0, fun _ => 0, fun _ => 0))
def headF : PE ⊕ (DS × Nat) := eB (wN T N 0 0) (fun p => eB (wN T N p 1) (fun p => eB (nN T N p 1 6) (fun r1 => eB (wN T N r1.2 2) (fun p => eB (nN T N p 1 6) (fun r2 => eB (wN T N r2.2 3) (fun p => eB (nN T N p 1 4) (fun r3 => closF T N ((up (up (up row0 1 r1.1) 2 r2.1) 3 r3.1, ds0.2), r3.2))))))))
def textF : PE ⊕ DS := eB (headF T N) (linesF T N 900)
end TXT
/-- a draft that may stand -/
def dsA (a : Nat → Int) (p : Nat) : Prop := (1 ≤ a 1 ∧ a 1 ≤ 6) ∧ (1 ≤ a 2 ∧ a 2 ≤ 6) ∧ (1 ≤ a 3 ∧ a 3 ≤ 4) ∧ (0 ≤ a 4 ∧ a 4 ≤ a 1) ∧ (∀ s, s < 6 → (0 ≤ a (16 + s) ∧ a (16 + s) < 6) ∧ (0 ≤ a (22 + s) ∧ a (22 + s) < 10)) ∧ (∀ s : Nat, s < 6 → (s : Int) < a 4 → a (16 + s) < a 1) ∧ (∀ s t : Nat, s < 6 → t < 6 → (s : Int) < a 4 → (t : Int) < a 4 → s ≠ t → a (16 + s) ≠ a (16 + t)) ∧ (0 ≤ a 5 ∧ a 5 < a 2) ∧ (0 ≤ a 12 ∧ a 12 < 6 ∧ (a 12 < a 4 ∨ (a 4 = 0 ∧ a 12 = 0))) ∧ (0 ≤ a 13 ∧ a 13 < a 2) ∧ (a 14 = 0 ∧ a 15 = 0 ∧ a 29 = 0 ∧ a 30 = 0) ∧ (0 ≤ a 28 ∧ a 28 < 10) ∧ (1 ≤ a 0 ∧ a 0 ≤ (p : Int)) ∧ (0 ≤ a 211 ∧ a 211 ≤ (p : Int)) ∧ 23 ≤ p
def dsL (a : Nat → Int) (l : Nat → Nat × (Nat → Int) × ((Nat → Int) → Int)) (i : Nat) : Prop := (a (6 + i) = 0 ∨ a (6 + i) = 1) ∧ (a (6 + i) = 1 → lawOK a (l i).2.2 i ∧ a (8 + i) + a (10 + i) ≤ a 211 ∧ lawC (l i).2.1 (l i).1 (l i).2.2)
def dsI (ds : DS) (p : Nat) : Prop := dsA ds.1 p ∧ dsL ds.1 ds.2 0 ∧ dsL ds.1 ds.2 1
section TXI
variable {T : Nat → Int} {N p q : Nat} {α β : Type}
theorem eB_inr {r : PE ⊕ α} {f : α → PE ⊕ β} {z : β} (h : eB r f = .inr z) : ∃ x, r = .inr x ∧ f x = .inr z := by
  cases r with
  | inl e => simp [eB] at h
  | inr x => exact ⟨x, rfl, h⟩
theorem wN_inr {k : Int} {z : Nat} (h : wN T N p k = .inr z) : tkK T N p = k ∧ z = tkE T N p := by
  unfold wN at h
  split at h
  · rename_i c; simp only [Sum.inr.injEq] at h; exact ⟨c, h.symm⟩
  · simp at h
theorem nN_inr {lo hi : Int} {z : Int × Nat} (h : nN T N p lo hi = .inr z) : tkK T N p = 25 ∧ (lo ≤ z.1 ∧ z.1 ≤ hi) ∧ z.1 = tkN T N p 0 ∧ z.2 = tkE T N p := by
  unfold nN at h
  split at h
  · rename_i c
    split at h
    · rename_i c2; simp only [Sum.inr.injEq] at h; subst h; exact ⟨c, c2, rfl, rfl⟩
    · simp at h
  · simp at h
/-- how long a word is -/
theorem tk_word {w : Nat} (t : ∀ k, 0 ≤ T k ∧ T k < 256) (hw : w < 24) (h : tkK T N p = (w : Int)) : tkE T N p = tkS T N p + kwN w := by
  unfold tkK at h
  by_cases q : tkS T N p < N
  · rw [if_pos q] at h
    by_cases c1 : 97 ≤ T (tkS T N p) ∧ T (tkS T N p) ≤ 122
    · rw [if_pos c1] at h
      have := (kyF_le (T := T) (s := tkS T N p) (e := tkE T N p) 24 0 (by omega)).2 w hw (by omega)
      have := this.mp (by omega)
      rw [mtK_t] at this
      exact this.1
    · rw [if_neg c1] at h
      exfalso
      split at h
      · split at h <;> omega
      · obtain ⟨c, hc⟩ : ∃ c : Nat, T (tkS T N p) = (c : Int) := ⟨(T (tkS T N p)).toNat, by have := t (tkS T N p); omega⟩
        have su := (sg_u c (by have := t (tkS T N p); omega)).1
        rw [← hc] at su
        omega
  · rw [if_neg q] at h; omega
theorem btL_t {a : Nat → Int} {b : Int} : ∀ (m s : Nat), btL a b m s = 1 ∨ (btL a b m s = 0 ∧ ∀ k, s ≤ k → k < s + m → (k : Int) < a 4 → a (16 + k) ≠ b) := by
  intro m
  induction m with
  | zero => intro s; exact Or.inr ⟨rfl, fun k h1 h2 => by omega⟩
  | succ m ih =>
    intro s
    simp only [btL]
    by_cases c1 : (s : Int) < a 4
    · rw [if_pos c1]
      by_cases c2 : a (16 + s) = b
      · rw [if_pos c2]; exact Or.inl rfl
      · rw [if_neg c2]
        rcases ih (s + 1) with q | ⟨q1, q2⟩
        · exact Or.inl q
        · refine Or.inr ⟨q1, fun k h1 h2 h3 => ?_⟩
          rcases Nat.lt_or_ge s k with l | l
          · exact q2 k l (by omega) h3
          · obtain rfl : k = s := by omega
            exact c2
    · rw [if_neg c1]
      exact Or.inr ⟨rfl, fun k h1 h2 h3 => by omega⟩
theorem lawC_of {nd : Nat} {tv : Bool} {x : PX} (g : gdX N nd tv p x) (hN : N ≤ 900) (hn : nd ≤ 64) : lawC (x.2.2.2.1 0) x.2.2.1 x.2.2.2.2 := by
  obtain ⟨g1, g2, g3, g4, g5⟩ := g
  refine ⟨by omega, fun env he => ?_⟩
  obtain ⟨a1, a2, a3, a4⟩ := g5 env he
  refine ⟨a1, ?_⟩
  have := a4 (x.2.2.2.1 0) x.2.2.1 0 [] (x.2.2.2.2 env) (fun j _ _ => rfl) (by omega) (by simp only [List.length_nil]; omega) (fun m _ => ?_)
  · exact this x.2.2.1 (by omega)
  · rw [Nat.zero_add]
    cases m with
    | zero => simp only [runC]; rw [if_pos (Nat.le_refl _)]; rfl
    | succ m => simp only [runC]; rw [if_pos (Nat.le_refl _)]; rfl
theorem dsL.keep {a b : Nat → Int} {l : Nat → Nat × (Nat → Int) × ((Nat → Int) → Int)} {i : Nat} (x : dsL a l i) (h6 : b (6 + i) = a (6 + i)) (h8 : b (8 + i) = a (8 + i)) (h10 : b (10 + i) = a (10 + i)) (h211 : a 211 ≤ b 211) (hc : ∀ j : Nat, 212 ≤ j → (j : Int) < 212 + a 211 → b j = a j) : dsL b l i := by
  obtain ⟨x1, x2⟩ := x
  refine ⟨by rw [h6]; exact x1, fun e => ?_⟩
  rw [h6] at e
  obtain ⟨⟨y1, y2, y3, y4⟩, y5, y6⟩ := x2 e
  have ec : codesOf b i = codesOf a i := by
    unfold codesOf
    rw [h10, h8]
    refine List.map_congr_left (fun j hj => ?_)
    rw [List.mem_range] at hj
    exact hc _ (by omega) (by omega)
  refine ⟨⟨by rw [h8]; exact y1, by rw [h10]; exact y2, by rw [h8, h10]; exact y3, fun env he => ?_⟩, by rw [h8, h10]; omega, y6⟩
  rw [ec]
  exact y4 env he
end TXI
