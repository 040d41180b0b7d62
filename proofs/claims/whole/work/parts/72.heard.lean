/-! what was heard: what is meant, and the reference -/
def hdB (num : Nat → Int) (i : Nat) (s : Int) : Bool := decide (¬ s % 2 = 1) && (decide (num i = -1) || decide (num i = soundI s))
theorem hdB_t {num : Nat → Int} {i : Nat} {s : Int} : hdB num i s = true ↔ (¬ s % 2 = 1 ∧ (num i = -1 ∨ num i = soundI s)) := by
  unfold hdB
  rw [Bool.and_eq_true, Bool.or_eq_true, decide_eq_true_eq, decide_eq_true_eq, decide_eq_true_eq]
/-- how many rows of m beats fit the last m of n that were heard -/
def hN (a : Nat → Int) (f : Nat → (Nat → Int) → Int) (num : Nat → Int) (n : Nat) : Nat → Int → Int
  | 0, _ => 1
  | m + 1, st => if ovT a st then 0 else sumZ (fun e => if hdB num (n - (m + 1)) (Tr a f st (e : Int)) = true then hN a f num n m (Tr a f st (e : Int)) else 0) (a 4 + 1).toNat
def lsT (p : Nat → Bool) : Nat → Nat → Nat
  | 0, e => e
  | k + 1, e => if p e = true then e else lsT p k (e + 1)
theorem lsT_le {p : Nat → Bool} {e0 : Nat} (hp : p e0 = true) : ∀ (k e : Nat), e ≤ e0 → e0 < e + k → lsT p k e ≤ e0 ∧ p (lsT p k e) = true := by
  intro k
  induction k with
  | zero => intro e h1 h2; omega
  | succ k ih =>
    intro e h1 h2
    simp only [lsT]
    by_cases q : p e = true
    · rw [if_pos q]; exact ⟨h1, q⟩
    · rw [if_neg q]
      have : e ≠ e0 := fun z => q (by rw [z]; exact hp)
      exact ih (e + 1) (by omega) (by omega)
/-- a deed by which the rest can fit -/
def hpB (a : Nat → Int) (f : Nat → (Nat → Int) → Int) (num : Nat → Int) (n m : Nat) (st : Int) (e : Nat) : Bool := decide ((e : Int) ≤ a 4) && (hdB num (n - (m + 1)) (Tr a f st (e : Int)) && decide (0 < hN a f num n m (Tr a f st (e : Int))))
def hFd (a : Nat → Int) (f : Nat → (Nat → Int) → Int) (num : Nat → Int) (n m : Nat) (st : Int) : Nat := lsT (hpB a f num n m st) 7 0
def hBy (a : Nat → Int) (f : Nat → (Nat → Int) → Int) (num : Nat → Int) (n : Nat) : Nat → Nat → Int → Nat
  | 0, m, st => hFd a f num n m st
  | k + 1, m, st => hBy a f num n k (m - 1) (Tr a f st (hFd a f num n m st : Int))
/-- stands after j beats that fit, with a rest that can fit -/
def mtP (a : Nat → Int) (f : Nat → (Nat → Int) → Int) (num : Nat → Int) (n : Nat) : Nat → Int → Prop
  | 0, s => s = stA a ∧ 0 < hN a f num n n (stA a)
  | j + 1, s => ∃ (st : Int) (e : Nat), mtP a f num n j st ∧ ¬ ovT a st ∧ (e : Int) ≤ a 4 ∧ s = Tr a f st (e : Int) ∧ hdB num j s = true ∧ 0 < hN a f num n (n - (j + 1)) s
def suP (a : Nat → Int) (f : Nat → (Nat → Int) → Int) (num : Nat → Int) (n i k : Nat) : Prop := ∃ s, mtP a f num n (i + 1) s ∧ lastI s = (k : Int)
def rgB (lo hi : Int) (num : Nat → Int) : Nat → Bool
  | 0 => true
  | k + 1 => rgB lo hi num k && decide (lo ≤ num k ∧ num k < hi)
theorem rgB_t {lo hi : Int} {num : Nat → Int} : ∀ {n : Nat}, rgB lo hi num n = true ↔ ∀ i, i < n → lo ≤ num i ∧ num i < hi := by
  intro n
  induction n with
  | zero => exact ⟨fun _ i hi => by omega, fun _ => rfl⟩
  | succ n ih =>
    simp only [rgB]
    rw [Bool.and_eq_true, ih, decide_eq_true_eq]
    constructor
    · intro h i hi
      by_cases q : i = n
      · rw [q]; exact h.2
      · exact h.1 i (by omega)
    · intro h
      exact ⟨fun i hi => h i (by omega), h n (by omega)⟩
/-- refusal of a row of numbers -/
def rfH (lo hi : Int) (num : Nat → Int) (n : Nat) : Int := if 1 ≤ n ∧ n ≤ 8 then (if rgB lo hi num n = true then 0 else -3) else -4
def q_heard (a : Nat → Int) (f : Nat → (Nat → Int) → Int) (num : Nat → Int) (n : Nat) : Int := if rfH (-1) (a 2) num n = 0 then hN a f num n n (stA a) else rfH (-1) (a 2) num n
def q_heardBy (a : Nat → Int) (f : Nat → (Nat → Int) → Int) (num : Nat → Int) (n : Nat) (i : Int) : Int := if rfH (-1) (a 2) num n = 0 then (if i < 0 then -3 else if hN a f num n n (stA a) = 0 then -1 else if i < (n : Int) then (hBy a f num n i.toNat (n - 1) (stA a) : Int) else -1) else rfH (-1) (a 2) num n
def suA (a : Nat → Int) (f : Nat → (Nat → Int) → Int) (num : Nat → Int) (n : Nat) (i z : Int) : Prop := (rfH (-1) (a 2) num n ≠ 0 → z = rfH (-1) (a 2) num n) ∧ (rfH (-1) (a 2) num n = 0 → (i < 0 → z = -3) ∧ (¬ i < 0 → (¬ i < (n : Int) → z = -7) ∧ (i < (n : Int) → isBits z 6 (suP a f num n i.toNat))))
theorem suA.uniq {a : Nat → Int} {f : Nat → (Nat → Int) → Int} {num : Nat → Int} {n : Nat} {i z w : Int} (x : suA a f num n i z) (y : suA a f num n i w) : z = w := by
  by_cases q : rfH (-1) (a 2) num n = 0
  · obtain ⟨x1, x2⟩ := x.2 q
    obtain ⟨y1, y2⟩ := y.2 q
    by_cases q1 : i < 0
    · rw [x1 q1, y1 q1]
    · by_cases q2 : i < (n : Int)
      · exact ((x2 q1).2 q2).uniq ((y2 q1).2 q2)
      · rw [(x2 q1).1 q2, (y2 q1).1 q2]
  · rw [x.1 q, y.1 q]
section HP
variable {a : Nat → Int} {f : Nat → (Nat → Int) → Int} {num : Nat → Int} {n : Nat} {B : Int}
theorem hN_b (r : rok a f B) : ∀ (m : Nat) (st : Int), 0 ≤ hN a f num n m st ∧ hN a f num n m st ≤ (7 : Int) ^ m := by
  have h4 := r.1.1
  intro m
  induction m with
  | zero => intro st; simp [hN]
  | succ m ih =>
    intro st
    simp only [hN]
    have p : (0 : Int) < (7 : Int) ^ m := Int.pow_pos (by omega)
    rw [Int.pow_succ]
    split
    · omega
    · have el : ∀ i : Nat, 0 ≤ (if hdB num (n - (m + 1)) (Tr a f st (i : Int)) = true then hN a f num n m (Tr a f st (i : Int)) else 0) ∧ (if hdB num (n - (m + 1)) (Tr a f st (i : Int)) = true then hN a f num n m (Tr a f st (i : Int)) else 0) ≤ (7 : Int) ^ m := by
        intro i
        have := ih (Tr a f st (i : Int))
        split <;> omega
      have cst : ∀ k : Nat, sumZ (fun _ => (7 : Int) ^ m) k = (k : Int) * (7 : Int) ^ m := by
        intro k
        induction k with
        | zero => simp [sumZ]
        | succ k ih => rw [sumZ_succ, ih, Int.natCast_add, Int.add_mul]; simp
      have n1 := sumZ_nn (u := fun e => if hdB num (n - (m + 1)) (Tr a f st (e : Int)) = true then hN a f num n m (Tr a f st (e : Int)) else 0) (n := (a 4 + 1).toNat) (fun i _ => (el i).1)
      have n2 := sumZ_le (u := fun e => if hdB num (n - (m + 1)) (Tr a f st (e : Int)) = true then hN a f num n m (Tr a f st (e : Int)) else 0) (v := fun _ => (7 : Int) ^ m) (n := (a 4 + 1).toNat) (fun i _ => (el i).2)
      rw [cst] at n2
      have n3 : (((a 4 + 1).toNat : Nat) : Int) * (7 : Int) ^ m ≤ 7 * (7 : Int) ^ m := Int.mul_le_mul_of_nonneg_right (by omega) (by omega)
      omega
theorem hN_8 (r : rok a f B) {m : Nat} (hm : m ≤ 8) (st : Int) : 0 ≤ hN a f num n m st ∧ hN a f num n m st ≤ 5764801 := by
  have h := hN_b (num := num) (n := n) r m st
  have p : ∀ m : Nat, m < 9 → (7 : Int) ^ m ≤ 5764801 := by decide +kernel
  have := p m (by omega)
  omega
theorem hpB_t {m e : Nat} {st : Int} : hpB a f num n m st e = true ↔ ((e : Int) ≤ a 4 ∧ hdB num (n - (m + 1)) (Tr a f st (e : Int)) = true ∧ 0 < hN a f num n m (Tr a f st (e : Int))) := by
  unfold hpB
  rw [Bool.and_eq_true, Bool.and_eq_true, decide_eq_true_eq, decide_eq_true_eq]
/-- a rest fits by some deed -/
theorem hN_pos (r : rok a f B) {m : Nat} {st : Int} (h : 0 < hN a f num n (m + 1) st) : ¬ ovT a st ∧ (hFd a f num n m st : Int) ≤ a 4 ∧ hpB a f num n m st (hFd a f num n m st) = true := by
  have h4 := r.1.1
  simp only [hN] at h
  have no : ¬ ovT a st := by
    intro q; rw [if_pos q] at h; omega
  rw [if_neg no] at h
  refine ⟨no, ?_⟩
  have ex : ∃ e : Nat, (e : Int) ≤ a 4 ∧ hpB a f num n m st e = true := by
    apply Classical.byContradiction
    intro c
    have z : sumZ (fun e => if hdB num (n - (m + 1)) (Tr a f st (e : Int)) = true then hN a f num n m (Tr a f st (e : Int)) else 0) (a 4 + 1).toNat = 0 := by
      refine sumZ_zero (fun e he => ?_)
      show (if hdB num (n - (m + 1)) (Tr a f st (e : Int)) = true then hN a f num n m (Tr a f st (e : Int)) else 0) = 0
      by_cases q : hdB num (n - (m + 1)) (Tr a f st (e : Int)) = true
      · rw [if_pos q]
        have b := (hN_b (num := num) (n := n) r m (Tr a f st (e : Int))).1
        apply Decidable.byContradiction
        intro c2
        exact c ⟨e, by omega, hpB_t.mpr ⟨by omega, q, by omega⟩⟩
      · rw [if_neg q]
    omega
  obtain ⟨e, e1, e2⟩ := ex
  have := lsT_le e2 7 0 (by omega) (by omega)
  unfold hFd
  exact ⟨by omega, this.2⟩
theorem hN_up (r : rok a f B) {m e : Nat} {st : Int} (no : ¬ ovT a st) (he : (e : Int) ≤ a 4) (h1 : hdB num (n - (m + 1)) (Tr a f st (e : Int)) = true) (h2 : 0 < hN a f num n m (Tr a f st (e : Int))) : 0 < hN a f num n (m + 1) st := by
  simp only [hN]
  rw [if_neg no]
  have h4 := r.1.1
  have := sumZ_el (u := fun e => if hdB num (n - (m + 1)) (Tr a f st (e : Int)) = true then hN a f num n m (Tr a f st (e : Int)) else 0) (n := (a 4 + 1).toNat) (k := e) (fun i _ => by
    show 0 ≤ (if hdB num (n - (m + 1)) (Tr a f st (i : Int)) = true then hN a f num n m (Tr a f st (i : Int)) else 0)
    have := (hN_b (num := num) (n := n) r m (Tr a f st (i : Int))).1
    split <;> omega) (by omega)
  have this : (if hdB num (n - (m + 1)) (Tr a f st (e : Int)) = true then hN a f num n m (Tr a f st (e : Int)) else 0) ≤ sumZ (fun e => if hdB num (n - (m + 1)) (Tr a f st (e : Int)) = true then hN a f num n m (Tr a f st (e : Int)) else 0) (a 4 + 1).toNat := this
  rw [if_pos h1] at this
  omega
theorem mtP_r : ∀ {j : Nat} {s : Int}, mtP a f num n j s → Rch a f s ∧ 0 < hN a f num n n (stA a) ∧ 0 < hN a f num n (n - j) s := by
  intro j
  induction j with
  | zero => rintro s ⟨e, h⟩; rw [e]; exact ⟨Rch.zero, h, h⟩
  | succ j ih =>
    rintro s ⟨st, e, h1, h2, h3, h4, h5, h6⟩
    obtain ⟨i1, i2, i3⟩ := ih h1
    rw [h4] at h6 ⊢
    exact ⟨i1.step h2 ⟨by omega, h3⟩, i2, h6⟩
/-- the sum over seven deeds -/
theorem hN_th (r : rok a f B) {m : Nat} {st : Int} (hr : Rch a f st) : sumZ (fun e => if thV a f st e ≠ -1 ∧ hdB num (n - (m + 1)) (thV a f st e) = true then hN a f num n m (thV a f st e) else 0) 7 = hN a f num n (m + 1) st := by
  have h4 := r.1.1
  simp only [hN]
  by_cases ho : ovT a st
  · rw [if_pos ho]
    refine sumZ_zero (fun e he => ?_)
    show (if thV a f st e ≠ -1 ∧ hdB num (n - (m + 1)) (thV a f st e) = true then hN a f num n m (thV a f st e) else 0) = 0
    rw [if_neg]
    rintro ⟨c, _⟩
    exact c (by unfold thV; rw [if_neg (fun z => z.1 ho)])
  · rw [if_neg ho]
    rw [sumZ_end (k := (a 4 + 1).toNat) (by omega) (fun i h1 h2 => ?_)]
    · refine sumZ_congr (fun e he => ?_)
      show (if thV a f st e ≠ -1 ∧ hdB num (n - (m + 1)) (thV a f st e) = true then hN a f num n m (thV a f st e) else 0) = _
      rcases thV_r r hr e with q | q
      · unfold thV at q
        rw [if_pos ⟨ho, by omega⟩] at q
        have := (Tr_ok r (deed := (e : Int)) (hr.ok r) ho).1
        omega
      · rw [q.2.2.2.2]
        have := (Tr_ok r (deed := (e : Int)) (hr.ok r) ho).1
        by_cases c : hdB num (n - (m + 1)) (Tr a f st (e : Int)) = true
        · rw [if_pos c, if_pos ⟨by omega, c⟩]
        · rw [if_neg c, if_neg (fun z => c z.2)]
    · rw [if_neg]
      rintro ⟨c, _⟩
      exact c (by unfold thV; rw [if_neg (by omega)])
end HP
section HM
variable {scr : Nat × (Nat → Int)} {d : Nat} {h : am_H} {Q : Option am_V → am_H → Prop} {a : Nat → Int} {f : Nat → (Nat → Int) → Int} {B : Int} {num : Nat → Int} {n : Nat} {t : Int}
theorem k_isHeard {i s : Int} (hs : am_sc scr) (hw : wf h) (ht : 0 ≤ t ∧ t ≤ 3) (hi : 0 ≤ i ∧ i < 40) (hn : numM h t i.toNat = num i.toNat) (h2 : s = -1 ∨ (0 ≤ s ∧ s < 360)) (H : Q (some (.inl (if s ≠ -1 ∧ hdB num i.toNat s = true then 1 else 0))) h) : am_R (am_prog scr) (d + 1) f_M_isHeard 0 [some (.inr (.inr ((109 : Nat) : Int))), some (.inl (t)), some (.inl (i)), some (.inl (s))] [] h Q := by
  refine w_M_isHeard_0 hs hw ⟨fun c => ?_, fun c => ?_⟩
  · rw [if_neg (fun z => z.1 c)] at H; exact H
  · rw [tm (by omega)]
    have ix : am_w (am_w (40 * t) + i) = 40 * t + i := by rw [am_w_id (x := 40 * t) (by omega) (by omega), am_w_id (by omega) (by omega)]
    rw [ix]
    unfold numM at hn
    rw [show (40 * t + i).toNat = 40 * t.toNat + i.toNat by omega, hn]
    refine ⟨fun c1 => ⟨by omega, fun c2 => ?_, fun c2 => ⟨by omega, ?_⟩⟩, fun c1 => ?_⟩
    · rw [if_pos ⟨c, hdB_t.mpr ⟨c1, Or.inl c2⟩⟩] at H; exact H
    · refine k_soundIn hs hw (by omega) ⟨_, rfl, hw, fun c3 => ?_, fun c3 => ?_⟩
      · rw [if_neg (fun z => by have := (hdB_t.mp z.2).2; omega)] at H; exact H
      · rw [if_pos ⟨c, hdB_t.mpr ⟨c1, Or.inr c3⟩⟩] at H; exact H
    · rw [if_neg (fun z => (hdB_t.mp z.2).1 c1)] at H; exact H
theorem k_noHeard (hs : am_sc scr) (hw : wf h) (ha : h.2.2.2 110 = a) (r : rok a f B) (ht : (0 ≤ t ∧ t ≤ 3) → h.2.2.2 130 t.toNat ≠ -1 → trM h t n num) (H : Q (some (.inl (if 0 ≤ t ∧ t ≤ 3 then (if h.2.2.2 130 t.toNat = -1 then -6 else rfH (-1) (a 2) num n) else -2))) h) : am_R (am_prog scr) (d + 2) f_M_noHeard 0 [some (.inr (.inr ((109 : Nat) : Int))), some (.inl (t)), none, none] [] h Q := by
  have h2 := r.1.2.1
  refine w_M_noHeard_0 hs hw ?_
  refine k_noTray hs hw ⟨_, rfl, hw, fun c => ?_, fun c => ?_⟩
  · have c3 : 0 ≤ t ∧ t ≤ 3 := by
      apply Decidable.byContradiction; intro q; rw [if_neg q] at c; omega
    rw [if_pos c3] at c H
    have c4 : h.2.2.2 130 t.toNat ≠ -1 := by
      intro q; rw [if_pos q] at c; omega
    rw [if_neg c4] at H
    obtain ⟨t1, t2, t3⟩ := ht c3 c4
    rw [t2]
    unfold rfH at H
    refine ⟨by omega, k_within hs hw ⟨_, rfl, hw, fun c5 => ?_, fun c5 => ?_⟩⟩
    · rw [i0, Decidable.not_not] at c5
      rw [if_pos (by omega)] at H
      generalize (if 0 ≤ t ∧ t ≤ 3 then (if h.2.2.2 130 t.toNat = -1 then (-6 : Int) else 0) else -2) = zz
      have lp : ∀ (m k : Nat), k + m = n → (∀ i, i < k → -1 ≤ num i ∧ num i < a 2) → am_R (am_prog scr) (d + 2) f_M_noHeard 34 [some (.inr (.inr ((109 : Nat) : Int))), some (.inl (t)), some (.inl (zz)), some (.inl ((k : Int)))] [] h Q := by
        intro m
        induction m with
        | zero =>
          intro k hk ok
          refine w_M_noHeard_34 hs hw ⟨by omega, fun _ => ?_, fun c => by omega⟩
          rw [if_pos (rgB_t.mpr (fun i hi => ok i (by omega)))] at H
          exact H
        | succ m ih =>
          intro k hk ok
          refine w_M_noHeard_34 hs hw ⟨by omega, fun c => by omega, fun _ => ?_⟩
          have ix : am_w (am_w (40 * t) + (k : Int)) = 40 * t + k := by rw [am_w_id (x := 40 * t) (by omega) (by omega), am_w_id (by omega) (by omega)]
          have nk := t3 k (by omega)
          unfold numM at nk
          rw [ix, show (40 * t + (k : Int)).toNat = 40 * t.toNat + k by omega, nk, ha, am_w_id (x := a 2 - 1) (by omega) (by omega)]
          refine ⟨by omega, k_within hs hw ⟨_, rfl, hw, fun c6 y hy => ?_, fun c6 => ?_⟩⟩
          · rw [i0, Decidable.not_not] at c6
            rw [am_w_id (by omega) (by omega)] at hy
            obtain rfl : y = ((k + 1 : Nat) : Int) := by omega
            refine ih (k + 1) (by omega) (fun i hi => ?_)
            by_cases q : i = k
            · rw [q]; omega
            · exact ok i (by omega)
          · rw [i0] at c6
            rw [if_neg (fun z => c6 (by have := rgB_t.mp z k (by omega); omega))] at H
            exact H
      exact lp n 0 (by omega) (fun i hi => by omega)
    · rw [i0] at c5
      rw [if_neg (by omega)] at H
      exact H
  · by_cases c3 : 0 ≤ t ∧ t ≤ 3
    · rw [if_pos c3] at c H ⊢
      by_cases c4 : h.2.2.2 130 t.toNat = -1
      · rw [if_pos c4] at H ⊢; exact H
      · rw [if_neg c4] at c; omega
    · rw [if_neg c3] at H ⊢; exact H
/-- how many rows fit is laid -/
def onP (h : am_H) (a : Nat → Int) (f : Nat → (Nat → Int) → Int) (num : Nat → Int) (n i : Nat) : Prop := ∀ st, Rch a f st → h.2.2.2 128 (360 * (i : Int) + st).toNat = hN a f num n (n - i) st
theorem k_laysHeard (hs : am_sc scr) (hw : wf h) (ha : h.2.2.2 110 = a) (r : rok a f B) (ht : 0 ≤ t ∧ t ≤ 3) (tr : trM h t n num) (hn : 1 ≤ n ∧ n ≤ 8) (H : ∀ g, wf g → fr [114, 115, 119, 120, 123, 128] [(109, 29)] h g → msP g a f → (∀ i, i ≤ n → onP g a f num n i) → Q (some (.inr (.inl (hN a f num n n (stA a))))) g) : am_R (am_prog scr) (d + 6) f_M_laysHeard 0 [some (.inr (.inr ((109 : Nat) : Int))), some (.inl (t)), none, none, none, none, none, none, none] [] h Q := by
  obtain ⟨t1, t2, t3⟩ := tr
  refine w_M_laysHeard_0 hs hw ?_
  refine k_laysStands hs hw ha r (fun b wb fb x => ⟨rfl, wb, by omega, fun y hy => ?_⟩)
  rw [fb.c 131 (by decide) (by decide), t2] at hy
  subst hy
  have c29 := x.1
  have stb : ∀ k : Nat, (k : Int) < b.2.2.2 109 29 → 0 ≤ b.2.2.2 119 k ∧ b.2.2.2 119 k < 360 := fun k hk => ((x.2.1 k hk).ok r).1
  have keep : ∀ g : am_H, fr [128] [] b g → g.2.2.2 109 29 = b.2.2.2 109 29 ∧ g.2.2.2 119 = b.2.2.2 119 ∧ g.2.2.2 120 = b.2.2.2 120 ∧ g.2.2.2 110 = a ∧ msP g a f ∧ (∀ i, i < n → numM g t i = num i) := by
    intro g fg
    have e1 := fg.f 109 29 (by decide) (by simp)
    have e2 := fg.c 119 (by decide) (by simp)
    have e3 := fg.c 120 (by decide) (by simp)
    refine ⟨e1, e2, e3, ?_, x.fr e1 e2 e3, fun i hi => ?_⟩
    · rw [fg.c 110 (by decide) (by simp), fb.c 110 (by decide) (by decide)]; exact ha
    · unfold numM
      rw [fg.c 132 (by decide) (by simp), fb.c 132 (by decide) (by decide)]
      exact t3 i hi
  -- from the last beat to the first
  have back : ∀ (m : Nat) (g : am_H), m ≤ n → wf g → fr [128] [] b g → (∀ i, m ≤ i → i ≤ n → onP g a f num n i) → am_R (am_prog scr) (d + 6) f_M_laysHeard 49 [some (.inr (.inr ((109 : Nat) : Int))), some (.inl (t)), some (.inl ((n : Int))), some (.inl ((m : Int) - 1)), none, none, none, none, none] [] g Q := by
    intro m
    induction m with
    | zero =>
      intro g hm wg fg on
      obtain ⟨k1, k2, k3, k4, k5, k6⟩ := keep g fg
      refine w_M_laysHeard_49 hs wg ⟨fun _ => ?_, fun c => by omega⟩
      refine k_standNowA hs wg k4 r ⟨_, rfl, wg, ?_⟩
      have sb := r.st.1
      refine ⟨by omega, ?_⟩
      have on0 := on 0 (by omega) (by omega) (stA a) Rch.zero
      rw [show (360 * ((0 : Nat) : Int) + stA a).toNat = (stA a).toNat by omega] at on0
      rw [on0, Nat.sub_zero]
      exact H g wg ((fb.mono (by decide) (by decide)).trans (fg.mono (by decide) (by simp))) k5 (fun i hi => on i (by omega) hi)
    | succ m ih =>
      intro g hm wg fg on
      rw [show ((m + 1 : Nat) : Int) - 1 = (m : Int) by omega]
      refine w_M_laysHeard_49 hs wg ⟨fun c => by omega, fun _ => ?_⟩
      have lp : ∀ (q k : Nat) (g : am_H), (k : Int) + q = b.2.2.2 109 29 → wf g → fr [128] [] b g → (∀ i, m + 1 ≤ i → i ≤ n → onP g a f num n i) → (∀ k' : Nat, k' < k → g.2.2.2 128 (360 * (m : Int) + b.2.2.2 119 k').toNat = hN a f num n (n - m) (b.2.2.2 119 k')) → am_R (am_prog scr) (d + 6) f_M_laysHeard 56 [some (.inr (.inr ((109 : Nat) : Int))), some (.inl (t)), some (.inl ((n : Int))), some (.inl ((m : Int))), some (.inl ((k : Int))), none, none, none, none] [] g Q := by
        intro q
        induction q with
        | zero =>
          intro k g hk wg fg on dn
          obtain ⟨k1, k2, k3, k4, k5, k6⟩ := keep g fg
          refine w_M_laysHeard_56 hs wg ⟨fun _ y hy => ?_, fun c => by omega⟩
          rw [am_w_id (by omega) (by omega)] at hy
          obtain rfl : y = (m : Int) - 1 := by omega
          refine ih g (by omega) wg fg (fun i h1 h2 => ?_)
          by_cases c : i = m
          · rw [c]
            intro st hr
            obtain ⟨j, j1, j2⟩ := x.2.2.1 st hr
            rw [← j2]
            exact dn j (by omega)
          · exact on i (by omega) h2
        | succ q ih2 =>
          intro k g hk wg fg on dn
          obtain ⟨k1, k2, k3, k4, k5, k6⟩ := keep g fg
          have sb := stb k (by omega)
          have hr := x.2.1 k (by omega)
          refine w_M_laysHeard_56 hs wg ⟨fun c => by omega, fun _ => ?_⟩
          have inner : ∀ (p e : Nat), e + p = 7 → am_R (am_prog scr) (d + 6) f_M_laysHeard 71 [some (.inr (.inr ((109 : Nat) : Int))), some (.inl (t)), some (.inl ((n : Int))), some (.inl ((m : Int))), some (.inl ((k : Int))), some (.inr (.inl (sumZ (fun e => if thV a f (b.2.2.2 119 k) e ≠ -1 ∧ hdB num m (thV a f (b.2.2.2 119 k) e) = true then hN a f num n (n - (m + 1)) (thV a f (b.2.2.2 119 k) e) else 0) e))), none, some (.inl ((e : Int))), none] [] g Q := by
            intro p
            induction p with
            | zero =>
              intro e he
              have hth := hN_th (num := num) (n := n) (m := n - (m + 1)) r hr
              rw [show n - (n - (m + 1) + 1) = m by omega, show n - (m + 1) + 1 = n - m by omega] at hth
              rw [show e = 7 by omega, hth]
              refine w_M_laysHeard_71 hs wg ⟨fun _ => ?_, fun c => by omega⟩
              rw [k2, Int.toNat_natCast, am_w_id (x := 360 * (m : Int)) (by omega) (by omega), am_w_id (x := 360 * (m : Int) + b.2.2.2 119 k) (by omega) (by omega)]
              refine ⟨by omega, by omega, fun h3 e3 y hy => ?_⟩
              rw [am_w_id (by omega) (by omega)] at hy
              obtain rfl : y = ((k + 1 : Nat) : Int) := by omega
              have c3 : ∀ j, h3.2.2.2 128 j = if j = (360 * (m : Int) + b.2.2.2 119 k).toNat then hN a f num n (n - m) (b.2.2.2 119 k) else g.2.2.2 128 j := by
                intro j; rw [e3]; simp only [put_at, true_and]
              refine ih2 (k + 1) h3 (by omega) (by rw [e3]; exact wg.pa (by decide +kernel)) (by rw [e3]; exact fg.put (Or.inl (by decide))) (fun i h1 h2 st hs2 => ?_) (fun k' hk' => ?_)
              · have so := (hs2.ok r).1
                rw [c3, if_neg (by omega)]
                exact on i h1 h2 st hs2
              · rw [c3]
                by_cases c : k' = k
                · rw [if_pos (by rw [c]), c]
                · have sb2 := stb k' (by omega)
                  have ne := x.2.2.2.1 k' k (by omega) (by omega)
                  rw [if_neg (by omega)]
                  exact dn k' (by omega)
            | succ p ih3 =>
              intro e he
              refine w_M_laysHeard_71 hs wg ⟨fun c => by omega, fun _ => ?_⟩
              have t7 := x.2.2.2.2 _ hr e (by omega)
              rw [k2, k3, Int.toNat_natCast, am_w_id (x := 7 * b.2.2.2 119 k) (by omega) (by omega), am_w_id (x := 7 * b.2.2.2 119 k + (e : Int)) (by omega) (by omega), t7]
              refine ⟨by omega, by omega, fun y7 h7 => ?_⟩
              subst h7
              have tv := thV_r r hr e
              have nxt := ih3 (e + 1) (by omega)
              rw [sumZ_succ] at nxt
              have su : ∀ e : Nat, e ≤ 7 → 0 ≤ sumZ (fun e => if thV a f (b.2.2.2 119 k) e ≠ -1 ∧ hdB num m (thV a f (b.2.2.2 119 k) e) = true then hN a f num n (n - (m + 1)) (thV a f (b.2.2.2 119 k) e) else 0) e ∧ sumZ (fun e => if thV a f (b.2.2.2 119 k) e ≠ -1 ∧ hdB num m (thV a f (b.2.2.2 119 k) e) = true then hN a f num n (n - (m + 1)) (thV a f (b.2.2.2 119 k) e) else 0) e ≤ (e : Int) * 5764801 := by
                intro e
                induction e with
                | zero => intro _; simp [sumZ]
                | succ e ihe =>
                  intro h
                  have := ihe (by omega)
                  have hb := hN_8 (num := num) (n := n) (m := n - (m + 1)) r (by omega) (thV a f (b.2.2.2 119 k) e)
                  rw [sumZ_succ]
                  split <;> omega
              have s0 := su e (by omega)
              refine k_isHeard (num := num) hs wg ht (by omega) (by rw [Int.toNat_natCast]; exact k6 m (by omega)) (by omega) ⟨_, rfl, wg, fun c y hy => ?_, fun c => ?_⟩
              · rw [Int.toNat_natCast, i0] at c
                rw [am_w_id (by omega) (by omega)] at hy
                obtain rfl : y = ((e + 1 : Nat) : Int) := by omega
                rw [if_neg c, Int.add_zero] at nxt
                exact nxt
              · rw [Int.toNat_natCast, i0, Decidable.not_not] at c
                rw [if_pos c] at nxt
                rcases tv with q | ⟨q1, q2, q3, q4, q5⟩
                · exact absurd q c.1
                · have on1 := on (m + 1) (by omega) (by omega) _ q1
                  have hb := hN_8 (num := num) (n := n) (m := n - (m + 1)) r (by omega) (thV a f (b.2.2.2 119 k) e)
                  rw [am_w_id (x := (m : Int) + 1) (by omega) (by omega), am_w_id (x := 360 * ((m : Int) + 1)) (by omega) (by omega), am_w_id (x := 360 * ((m : Int) + 1) + thV a f (b.2.2.2 119 k) e) (by omega) (by omega)]
                  rw [show ((m + 1 : Nat) : Int) = (m : Int) + 1 by omega] at on1
                  rw [on1]
                  refine ⟨by omega, fun y12 h12 y hy => ?_⟩
                  rw [am_w_id (by omega) (by omega)] at hy
                  obtain rfl : y = ((e + 1 : Nat) : Int) := by omega
                  rw [am_W_id (by omega) (by omega)] at h12
                  rw [h12]
                  exact nxt
          exact inner 7 0 rfl
      exact lp (b.2.2.2 109 29).toNat 0 g (by omega) wg fg on (fun k' hk' => by omega)
  have lp : ∀ (q k : Nat) (g : am_H), (k : Int) + q = b.2.2.2 109 29 → wf g → fr [128] [] b g → (∀ k' : Nat, k' < k → g.2.2.2 128 (360 * (n : Int) + b.2.2.2 119 k').toNat = 1) → am_R (am_prog scr) (d + 6) f_M_laysHeard 13 [some (.inr (.inr ((109 : Nat) : Int))), some (.inl (t)), some (.inl ((n : Int))), some (.inl ((k : Int))), none, none, none, none, none] [] g Q := by
    intro q
    induction q with
    | zero =>
      intro k g hk wg fg dn
      obtain ⟨k1, k2, k3, k4, k5, k6⟩ := keep g fg
      refine w_M_laysHeard_13 hs wg ⟨fun _ y hy => ?_, fun c => by omega⟩
      rw [am_w_id (by omega) (by omega)] at hy
      subst hy
      refine back n g (by omega) wg fg (fun i h1 h2 => ?_)
      obtain rfl : i = n := by omega
      intro st hr
      obtain ⟨j, j1, j2⟩ := x.2.2.1 st hr
      rw [← j2, dn j (by omega), Nat.sub_self]
      simp only [hN]
    | succ q ih =>
      intro k g hk wg fg dn
      obtain ⟨k1, k2, k3, k4, k5, k6⟩ := keep g fg
      have sb := stb k (by omega)
      refine w_M_laysHeard_13 hs wg ⟨fun c => by omega, fun _ => ?_⟩
      rw [k2, Int.toNat_natCast, am_w_id (x := 360 * (n : Int)) (by omega) (by omega), am_w_id (x := 360 * (n : Int) + b.2.2.2 119 k) (by omega) (by omega)]
      refine ⟨by omega, by omega, fun h3 e3 y hy => ?_⟩
      rw [am_w_id (by omega) (by omega)] at hy
      obtain rfl : y = ((k + 1 : Nat) : Int) := by omega
      refine ih (k + 1) h3 (by omega) (by rw [e3]; exact wg.pa (by decide +kernel)) (by rw [e3]; exact fg.put (Or.inl (by decide))) (fun k' hk' => ?_)
      rw [e3]
      simp only [put_at, true_and]
      by_cases c : k' = k
      · rw [if_pos (by rw [c])]
      · have sb2 := stb k' (by omega)
        have ne := x.2.2.2.1 k' k (by omega) (by omega)
        rw [if_neg (by omega)]
        exact dn k' (by omega)
  exact lp (b.2.2.2 109 29).toNat 0 b (by omega) wb fr.rfl (fun k' hk' => by omega)
theorem k_Mheard (hs : am_sc scr) (hw : wf h) (ha : h.2.2.2 110 = a) (r : rok a f B) (ht : (0 ≤ t ∧ t ≤ 3) → h.2.2.2 130 t.toNat ≠ -1 → trM h t n num) (H : ∀ g, wf g → fr [114, 115, 119, 120, 123, 128] [(109, 0), (109, 29)] h g → Q (some (.inr (.inl (if 0 ≤ t ∧ t ≤ 3 then (if h.2.2.2 130 t.toNat = -1 then -6 else q_heard a f num n) else -2)))) g) : am_R (am_prog scr) (d + 7) f_M_heard 0 [some (.inr (.inr ((109 : Nat) : Int))), some (.inl (t)), none] [] h Q := by
  refine w_M_heard_0 hs hw (fun g1 q1 => ?_)
  have w1 : wf g1 := by rw [q1]; exact (put0 hw).1
  have f0 : fr [] [(109, 0)] h g1 := by rw [q1]; exact (put0 hw).2
  have a1 : g1.2.2.2 110 = a := (f0.c 110 (by simp) (by decide)).trans ha
  have f1 : fr [114, 115, 119, 120, 123, 128] [(109, 0), (109, 29)] h g1 := f0.mono (by simp) (by decide)
  have s1 : g1.2.2.2 130 = h.2.2.2 130 := f0.c 130 (by simp) (by decide)
  have t1 : (0 ≤ t ∧ t ≤ 3) → g1.2.2.2 130 t.toNat ≠ -1 → trM g1 t n num := by
    intro c1 c2
    obtain ⟨z1, z2, z3⟩ := ht c1 (by rw [← s1]; exact c2)
    refine ⟨z1, by rw [f0.c 131 (by simp) (by decide)]; exact z2, fun i hi => ?_⟩
    unfold numM
    rw [f0.c 132 (by simp) (by decide)]; exact z3 i hi
  unfold q_heard at H
  refine k_noHeard hs w1 a1 r t1 ⟨_, rfl, w1, fun c => ?_, fun c => ?_⟩
  · rw [s1] at c
    have c3 : 0 ≤ t ∧ t ≤ 3 := by
      apply Decidable.byContradiction; intro q; rw [if_neg q] at c; omega
    rw [if_pos c3] at c H
    have c4 : h.2.2.2 130 t.toNat ≠ -1 := by
      intro q; rw [if_pos q] at c; omega
    rw [if_neg c4] at c H
    rw [if_pos c] at H
    have nb : 1 ≤ n ∧ n ≤ 8 := by
      apply Decidable.byContradiction; intro q; unfold rfH at c; rw [if_neg q] at c; omega
    refine k_laysHeard hs w1 a1 r c3 (t1 c3 (by rw [s1]; exact c4)) nb (fun g wg fg _ _ => ⟨_, rfl, wg, ?_⟩)
    exact H g wg (f1.trans (fg.mono (by decide) (by decide)))
  · rw [s1] at c ⊢
    have HH := H g1 w1 f1
    by_cases c3 : 0 ≤ t ∧ t ≤ 3
    · rw [if_pos c3] at c HH ⊢
      by_cases c4 : h.2.2.2 130 t.toNat = -1
      · rw [if_pos c4] at HH ⊢; exact HH
      · rw [if_neg c4] at c HH ⊢
        rw [if_neg c] at HH
        exact HH
    · rw [if_neg c3] at HH ⊢; exact HH
end HM
