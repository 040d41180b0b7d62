/-! the class's world: how many houses were read, what each tells, what its laws say, where it lies -/
abbrev Wd : Type := Nat × (Nat → Nat → Int) × (Nat → Nat → (Nat → Int) → Int) × (Nat → Nat)
def LWo (W : Wd) (ser i : Nat) : (Nat → Int) → Int := if i = 0 then W.2.2.1 ser 0 else fun env => W.2.2.1 ser 1 env % W.2.1 ser 2
def hsW (h : am_H) (W : Wd) : Prop := (W.2.1 0 6 ≠ 1 ∧ W.2.1 0 7 ≠ 1) ∧ ∀ ser, ser ≤ W.1 → hsC h (W.2.2.2 ser) (W.2.1 ser) (W.2.2.1 ser) ∧ h.2.2.2 (W.2.2.2 ser) 0 = (ser : Int) ∧ W.2.2.2 ser < h.1
def wc (h : am_H) (W : Wd) : Prop := W.1 ≤ 600 ∧ hsW h W ∧ caC h (LWo W) W.1
/-- the play p is the row a, in house ser -/
def plW (h : am_H) (W : Wd) (p ser : Nat) (a : Nat → Int) : Prop := ser ≤ W.1 ∧ (∀ j, j < 8 → a j = W.2.1 ser j) ∧ plC h p (W.2.2.2 ser) a (a 28) (stA a) ∧ h.2.2.2 p 7 = a 29
section WO
variable {h g : am_H} {W : Wd} {p ser : Nat} {a b : Nat → Int} {f : Nat → (Nat → Int) → Int} {L : List Nat} {F : List (Nat × Nat)}
theorem hsW.fr (x : hsW h W) (q : fr L F h g) (h1 : ∀ x ∈ L, x < 133 ∧ x ≠ 21) (h2 : ∀ q ∈ F, q.1 < 133 ∧ q.1 ≠ 21) : hsW g W := ⟨x.1, fun s hs => by
  obtain ⟨x1, x2, x3⟩ := x.2 s hs
  obtain ⟨y1, y2⟩ := x1.fr q h1 h2
  exact ⟨y1, by rw [y2]; exact x2, by rw [q.1]; exact x3⟩⟩
theorem wc.fr (x : wc h W) (q : fr L F h g) (h1 : ∀ x ∈ L, x < 133 ∧ x ≠ 21 ∧ (x < 10 ∨ 13 < x)) (h2 : ∀ q ∈ F, q.1 < 133 ∧ q.1 ≠ 21 ∧ (q.1 < 10 ∨ 13 < q.1)) : wc g W := ⟨x.1, x.2.1.fr q (fun y hy => ⟨(h1 y hy).1, (h1 y hy).2.1⟩) (fun y hy => ⟨(h2 y hy).1, (h2 y hy).2.1⟩), x.2.2.fr q (fun y hy => (h1 y hy).2.2) (fun y hy => (h2 y hy).2.2)⟩
theorem hsC.row {hid : Nat} (x : hsC h hid a f) (e : ∀ j, j < 8 → b j = a j) : hsC h hid b f := by
  unfold hsC at x ⊢
  rw [e 0 (by omega), e 1 (by omega), e 2 (by omega), e 3 (by omega), e 4 (by omega), e 5 (by omega), e 6 (by omega), e 7 (by omega)]
  exact x
theorem plW.hs (x : plW h W p ser a) (w : wc h W) : hsC h (W.2.2.2 ser) a (W.2.2.1 ser) ∧ lwS (LWo W) W.1 (h.2.2.2 (W.2.2.2 ser) 0) a (W.2.2.1 ser) := by
  obtain ⟨x1, x2, x3, x4⟩ := x
  obtain ⟨y1, y2, y3⟩ := w.2.1.2 ser x1
  refine ⟨y1.row x2, ?_⟩
  rw [y2]
  have p1 : a 6 = 1 → 1 ≤ ser := fun e => by
    rcases Nat.eq_zero_or_pos ser with q | q
    · subst q; rw [x2 6 (by omega)] at e; exact absurd e w.2.1.1.1
    · exact q
  have p2 : a 7 = 1 → 1 ≤ ser := fun e => by
    rcases Nat.eq_zero_or_pos ser with q | q
    · subst q; rw [x2 7 (by omega)] at e; exact absurd e w.2.1.1.2
    · exact q
  refine ⟨by omega, fun e => ⟨by have := p1 e; omega, ?_⟩, fun e => ⟨by have := p2 e; omega, ?_⟩⟩
  · rw [Int.toNat_natCast]; rfl
  · rw [Int.toNat_natCast, x2 2 (by omega)]; rfl
theorem plW.fr (x : plW h W p ser a) (q : fr L F h g) (h1 : ∀ x ∈ L, x < p ∨ p + 2 < x) (h2 : ∀ x ∈ F, x.1 < p ∨ p + 2 < x.1) : plW g W p ser a := by
  obtain ⟨x1, x2, x3, x4⟩ := x
  refine ⟨x1, x2, x3.fr q h1 h2, ?_⟩
  rw [q.f p 7 (fun y => by have := h1 _ y; omega) (fun y => by have := h2 _ y; simp only at this; omega)]
  exact x4
theorem plC.row {hid : Nat} {hu st : Int} (x : plC h p hid a hu st) (e : ∀ j, j = 4 ∨ (16 ≤ j ∧ j < 28) → b j = a j) : plC h p hid b hu st := by
  unfold plC at x ⊢
  rw [e 4 (by omega)]
  exact ⟨x.1, fun s hs => by rw [e (16 + s) (by omega), e (22 + s) (by omega)]; exact x.2.1 s hs, x.2.2⟩
theorem plW.row (x : plW h W p ser a) (e : ∀ j, j < 30 → b j = a j) : plW h W p ser b := by
  obtain ⟨x1, x2, x3, x4⟩ := x
  have es : stA b = stA a := by unfold stA; rw [e 14 (by omega), e 12 (by omega), e 13 (by omega), e 15 (by omega)]
  refine ⟨x1, fun j hj => by rw [e j (by omega)]; exact x2 j hj, ?_, by rw [e 29 (by omega)]; exact x4⟩
  rw [es, e 28 (by omega)]
  exact x3.row (fun j hj => e j (by omega))
theorem pl_dis {q : Nat} (hp : p ∈ PL) (hq : q ∈ PL) (n : p ≠ q) : p + 2 < q ∨ q + 2 < p := by
  have : ∀ p ∈ PL, ∀ q ∈ PL, p ≠ q → p + 2 < q ∨ q + 2 < p := by decide +kernel
  exact this p hp q hq n
theorem pl_not (hp : p ∈ PL) : p < 133 ∧ p + 2 < 133 ∧ 21 < p := by
  have := pl_rg hp
  omega
theorem cpy_at {x y sp dp n : Nat} (c j : Nat) : (am_cpy h x y sp dp n).2.2.2 c j = if c = y ∧ dp ≤ j ∧ j < dp + n then h.2.2.2 x (sp + (j - dp)) else h.2.2.2 c j := rfl
end WO
section WP
variable {scr : Nat × (Nat → Int)} {d : Nat} {h : am_H} {Q : Option am_V → am_H → Prop} {W : Wd} {p q ser : Nat} {a b : Nat → Int} {f : Nat → (Nat → Int) → Int} {B : Int}
theorem k_takeFrom (hs : am_sc scr) (hw : wf h) (hp : p ∈ PL) (hq : q ∈ PL) (n : p ≠ q) (x : plW h W q ser a) (r : rok a f B) (H : ∀ g, wf g → fr [p, p + 1, p + 2] [] h g → plW g W p ser a → plW g W q ser a → Q none g) : am_R (am_prog scr) d f_Play_takeFrom 0 [some (.inr (.inr (((p) : Nat) : Int))), some (.inr (.inr (((q) : Nat) : Int)))] [] h Q := by
  have dis := pl_dis hp hq n
  obtain ⟨l1, l2, l3, l4, l5, l6, l7, l8⟩ := pl_lt hp
  obtain ⟨m1, m2, m3, m4, m5, m6, m7, m8⟩ := pl_lt hq
  have x0 := x
  obtain ⟨x1, x2, x3, x4⟩ := x
  obtain ⟨y1, y2, y3, y4, y5, y6, y7⟩ := x3
  obtain ⟨s1, s2, s3, s4, s5⟩ := r.st
  have kp1 := hw.2.1 (p + 1) (by omega)
  have kp2 := hw.2.1 (p + 2) (by omega)
  have kq1 := hw.2.1 (q + 1) (by omega)
  have kq2 := hw.2.1 (q + 2) (by omega)
  rw [l3] at kp1
  rw [l4] at kp2
  rw [m3] at kq1
  rw [m4] at kq2
  refine w_Play_takeFrom_0 hp hq hs hw ⟨by rw [y1]; omega, fun g2 e2 => ?_⟩
  have k2 : g2.2.2.1 = h.2.2.1 := by rw [e2]; rfl
  rw [k2, kp1, kq1]
  refine ⟨⟨by omega, rfl⟩, ⟨by omega, rfl⟩, by omega, by omega, by simp, by simp, fun g9 e9 => ?_⟩
  have k9 : g9.2.2.1 = h.2.2.1 := by rw [e9]; exact k2
  rw [k9, kp2, kq2]
  refine ⟨⟨by omega, rfl⟩, ⟨by omega, rfl⟩, by omega, by omega, by simp, by simp, fun g16 e16 g17 e17 g18 e18 g19 e19 g20 e20 g21 e21 => ?_⟩
  have v8 : g21.2.2.2 q 8 = h.2.2.2 q 8 := by
    rw [e21, e20, e19, e18, e17, e16, e9, e2]
    simp only [put_at, cpy_at]
    rw [if_neg (by omega), if_neg (by omega), if_neg (by omega), if_neg (by omega), if_neg (by omega), if_neg (by omega), if_neg (by omega), if_neg (by omega)]
  rw [v8, y7]
  refine ⟨by omega, fun g23 e23 => ?_⟩
  have w2 : wf g2 := by rw [e2]; exact hw.put (pl_np hp (by omega))
  have w9 : wf g9 := by rw [e9]; exact w2.cpy l7
  have w16 : wf g16 := by rw [e16]; exact w9.cpy l8
  have w17 : wf g17 := by rw [e17]; exact w16.put (pl_np hp (by omega))
  have w18 : wf g18 := by rw [e18]; exact w17.put (pl_np hp (by omega))
  have w19 : wf g19 := by rw [e19]; exact w18.put (pl_np hp (by omega))
  have w20 : wf g20 := by rw [e20]; exact w19.put (pl_np hp (by omega))
  have w21 : wf g21 := by rw [e21]; exact w20.put (pl_np hp (by omega))
  have w23 : wf g23 := by rw [e23]; exact w21.put (pl_np hp (by omega))
  have f16 : fr [p, p + 1, p + 2] [] h g16 := by
    rw [e16, e9, e2]
    exact ((fr.rfl.put (Or.inl (by simp))).cpy (by simp)).cpy (by simp)
  have f23 : fr [p, p + 1, p + 2] [] h g23 := by
    rw [e23, e21, e20, e19, e18, e17]
    exact (((((f16.put (Or.inl (by simp))).put (Or.inl (by simp))).put (Or.inl (by simp))).put (Or.inl (by simp))).put (Or.inl (by simp))).put (Or.inl (by simp))
  have eq : ∀ g, fr [p, p + 1, p + 2] [] h g → ∀ j, g.2.2.2 q j = h.2.2.2 q j := fun g fg j => fg.f q j (by simp; omega) (by simp)
  have f17 : fr [p, p + 1, p + 2] [] h g17 := by rw [e17]; exact f16.put (Or.inl (by simp))
  have f18 : fr [p, p + 1, p + 2] [] h g18 := by rw [e18]; exact f17.put (Or.inl (by simp))
  have f19 : fr [p, p + 1, p + 2] [] h g19 := by rw [e19]; exact f18.put (Or.inl (by simp))
  have f20 : fr [p, p + 1, p + 2] [] h g20 := by rw [e20]; exact f19.put (Or.inl (by simp))
  rw [eq g16 f16] at e17
  rw [eq g17 f17] at e18
  rw [eq g18 f18] at e19
  rw [eq g19 f19] at e20
  rw [eq g20 f20] at e21
  have c : ∀ c j, g23.2.2.2 c j = if c = p ∧ j = 8 then stA a % 2 else if c = p ∧ j = 7 then h.2.2.2 q 7 else if c = p ∧ j = 6 then h.2.2.2 q 6 else if c = p ∧ j = 5 then h.2.2.2 q 5 else if c = p ∧ j = 4 then h.2.2.2 q 4 else if c = p ∧ j = 3 then h.2.2.2 q 3 else g16.2.2.2 c j := by
    intro c j
    rw [e23, e21, e20, e19, e18, e17]
    simp only [put_at]
  have c2 : ∀ c j, g16.2.2.2 c j = if c = p + 2 ∧ 0 ≤ j ∧ j < 0 + 6 then (if q + 2 = p + 1 ∧ 0 ≤ (0 + (j - 0)) ∧ (0 + (j - 0)) < 0 + 6 then h.2.2.2 p 0 else h.2.2.2 (q + 2) j) else if c = p + 1 ∧ 0 ≤ j ∧ j < 0 + 6 then h.2.2.2 (q + 1) j else if c = p ∧ j = 0 then h.2.2.2 q 0 else h.2.2.2 c j := by
    intro c j
    rw [e16, e9, e2]
    simp only [put_at, cpy_at]
    rw [if_neg (show ¬ (q + 1 = p ∧ 0 + (j - 0) = 0) by omega), if_neg (show ¬ (q + 2 = p ∧ 0 + (j - 0) = 0) by omega)]
    rw [if_neg (show ¬ (q + 2 = p + 1 ∧ 0 ≤ 0 + (j - 0) ∧ 0 + (j - 0) < 0 + 6) by omega), if_neg (show ¬ (q + 2 = p + 1 ∧ 0 ≤ 0 + (j - 0) ∧ 0 + (j - 0) < 0 + 6) by omega)]
    simp only [Nat.zero_add, Nat.sub_zero]
  have pp : ∀ j, 3 ≤ j → j ≤ 8 → g23.2.2.2 p j = h.2.2.2 q j := by
    intro j j1 j2
    rw [c p j]
    rcases (by omega : j = 3 ∨ j = 4 ∨ j = 5 ∨ j = 6 ∨ j = 7 ∨ j = 8) with rfl | rfl | rfl | rfl | rfl | rfl <;> simp [y7]
  refine H g23 w23 f23 ⟨x1, x2, ⟨?_, fun s hs => ⟨?_, ?_⟩, ?_, ?_, ?_, ?_, ?_⟩, ?_⟩ (x0.fr f23 (by simp; omega) (by simp))
  · rw [c p 0, c2 p 0, if_neg (by omega), if_neg (by omega), if_neg (by omega), if_neg (by omega), if_neg (by omega), if_neg (by omega), if_neg (by omega), if_neg (by omega), if_pos (by simp), y1]
  · rw [c (p + 1) s, c2 (p + 1) s, if_neg (by omega), if_neg (by omega), if_neg (by omega), if_neg (by omega), if_neg (by omega), if_neg (by omega), if_neg (by omega), if_pos (by omega)]
    exact (y2 s hs).1
  · rw [c (p + 2) s, c2 (p + 2) s, if_neg (by omega), if_neg (by omega), if_neg (by omega), if_neg (by omega), if_neg (by omega), if_neg (by omega), if_pos (by omega), if_neg (by omega)]
    exact (y2 s hs).2
  · rw [pp 3 (by omega) (by omega)]; exact y3
  · rw [pp 4 (by omega) (by omega)]; exact y4
  · rw [pp 5 (by omega) (by omega)]; exact y5
  · rw [pp 6 (by omega) (by omega)]; exact y6
  · rw [pp 8 (by omega) (by omega)]; exact y7
  · rw [pp 7 (by omega) (by omega)]; exact x4
theorem k_stepW {wk : Int} (hs : am_sc scr) (hw : wf h) (hp : p ∈ PL) (w : wc h W) (x : plW h W p ser a) (r : rok a (W.2.2.1 ser) B) (hB : B < 1000000) (ho : ¬ ovA a) (H : ∀ g, wf g → fr [10, 11, 12, 13, 14, 15] [(p, 4), (p, 5), (p, 6), (p, 7), (p, 8)] h g → wc g W → plW g W p ser (gbA a (W.2.2.1 ser) wk) → Q (some (.inl (snorS a (W.2.2.1 ser) (a 28) (stA a) wk))) g) : am_R (am_prog scr) (d + 3) f_Stage_step 0 [some (.inr (.inr (((9) : Nat) : Int))), some (.inr (.inr (((p) : Nat) : Int))), some (.inl (wk)), none, none, none, none] [] h Q := by
  obtain ⟨hh, hl⟩ := x.hs w
  obtain ⟨s1, s2, s3, s4, s5⟩ := r.st
  have r3 := r.2.2.1
  have r5 := r.2.2.2.2
  have hn := pl_not hp
  have o1 : a 14 ≠ a 3 := fun e => ho (Or.inl e)
  have o2 : a 15 ≠ 1 := fun e => ho (Or.inr e)
  obtain ⟨x1, x2, x3, x4⟩ := x
  refine k_step hs hw hp r.1 w.1 r.2.2.2.1 s1 (by rw [s2]; omega) (by rw [s5]; omega) (bt := a 29) (by omega) hh x3 x4 hl w.2.2 (fun g wg fg cg pg bg => ?_)
  have fl : ∀ x ∈ [10, 11, 12, 13, 14, 15], x < 133 ∧ x ≠ 21 := by decide
  refine H g wg fg ⟨w.1, w.2.1.fr fg fl (by simp; omega), cg⟩ ?_
  obtain ⟨e1, e2, e3, e4, e5, e6⟩ := gbA_e (a := a) (f := W.2.2.1 ser) (wk := wk)
  have hbt := btA_par r ho wk
  refine ⟨x1, fun j hj => by rw [e1 j (by omega) (by omega) (by omega) (by omega) (by omega)]; exact x2 j hj, ?_, ?_⟩
  · rw [gbA_st r ho, e1 28 (by omega) (by omega) (by omega) (by omega) (by omega)]
    exact pg.row (fun j hj => e1 j (by omega) (by omega) (by omega) (by omega) (by omega))
  · rw [bg, e6]
    rcases hbt with ⟨q1, q2, q3⟩ | ⟨q1, q2, q3⟩
    · rw [if_pos q1, if_neg (by omega)]
    · rw [if_neg q1, if_pos q2]
theorem hs_oW (w : wc h W) (x : plW h W p ser a) : am_isO h (h.2.2.2 p 0) 1 ∧ (h.2.2.2 p 0).toNat = W.2.2.2 ser ∧ h.2.2.2 (W.2.2.2 ser) 4 = a 4 ∧ h.2.2.2 (W.2.2.2 ser) 3 = a 3 := by
  obtain ⟨hh, hl⟩ := x.hs w
  have := hs_o hh x.2.2.1
  exact ⟨this.1, this.2, hh.2.2.2.2.2.1, hh.2.2.2.2.1⟩
theorem k_has {s : Int} (hs : am_sc scr) (hw : wf h) (hp : p ∈ PL) (w : wc h W) (x : plW h W p ser a) (H : Q (some (.inl (if 0 ≤ s ∧ s < a 4 then 1 else 0))) h) : am_R (am_prog scr) d f_Play_has 0 [some (.inr (.inr (((p) : Nat) : Int))), some (.inl (s))] [] h Q := by
  obtain ⟨o1, o2, o3, o4⟩ := hs_oW w x
  refine w_Play_has_0 hp hs hw ⟨fun c => ?_, fun c => ⟨o1, ?_⟩⟩
  · rw [if_neg (by omega)] at H; exact H
  · rw [o2, o3]
    refine ⟨fun c2 => ?_, fun c2 => ?_⟩
    · rw [if_neg (by omega)] at H; exact H
    · rw [if_pos (by omega)] at H; exact H
theorem k_hasEndedC (hs : am_sc scr) (hw : wf h) (hp : p ∈ PL) (w : wc h W) (x : plW h W p ser a) (r : rok a f B) (H : Q (some (.inl (if a 14 = a 3 then 1 else 0))) h) : am_R (am_prog scr) d f_Play_hasEnded 0 [some (.inr (.inr (((p) : Nat) : Int)))] [] h Q := by
  obtain ⟨o1, o2, o3, o4⟩ := hs_oW w x
  obtain ⟨s1, s2, s3, s4, s5⟩ := r.st
  have r3 := r.2.2.1
  refine w_Play_hasEnded_0 hp hs hw ⟨o1, ?_⟩
  have e6 : h.2.2.2 p 6 = a 14 := by rw [x.2.2.1.2.2.2.2.2.1, s2]
  rw [o2, o4, e6]
  refine ⟨fun c => ?_, fun c => ?_⟩
  · rw [if_neg (by omega)] at H; exact H
  · rw [if_pos (by omega)] at H; exact H
theorem k_goesOnC (hs : am_sc scr) (hw : wf h) (hp : p ∈ PL) (w : wc h W) (x : plW h W p ser a) (r : rok a f B) (H : Q (some (.inl (if ovA a then 0 else 1))) h) : am_R (am_prog scr) (d + 1) f_Play_goesOn 0 [some (.inr (.inr (((p) : Nat) : Int)))] [] h Q := by
  obtain ⟨s1, s2, s3, s4, s5⟩ := r.st
  have r3 := r.2.2.1
  have e8 : h.2.2.2 p 8 = a 15 := by rw [x.2.2.1.2.2.2.2.2.2, s5]
  refine w_Play_goesOn_0 hp hs hw ?_
  rw [e8]
  refine ⟨fun c => ?_, fun c => ?_⟩
  · rw [if_pos (Or.inr (by omega))] at H; exact H
  · refine k_hasEndedC hs hw hp w x r ⟨_, rfl, hw, fun c2 => ?_, fun c2 => ?_⟩
    · rw [i0, Decidable.not_not] at c2
      rw [if_pos (Or.inl c2)] at H; exact H
    · rw [i0] at c2
      rw [if_neg (by intro q; rcases q with q | q <;> omega)] at H; exact H
theorem k_isBeat {v : Int} (hs : am_sc scr) (hw : wf h) (H : Q (some (.inl (if 0 ≤ v ∧ v ≤ 9 then 1 else 0))) h) : am_R (am_prog scr) d f_Stage_isBeat 0 [some (.inr (.inl (v))), none] [] h Q := by
  refine w_Stage_isBeat_0 hs hw ⟨fun c => ?_, fun c => ⟨fun c2 => ?_, fun c2 => ?_⟩⟩
  · rw [if_neg (by omega)] at H; exact H
  · rw [if_neg (by omega)] at H; exact H
  · rw [if_pos (by omega)] at H; exact H
theorem k_whyNotC {v : Int} (hs : am_sc scr) (hw : wf h) (hp : p ∈ PL) (w : wc h W) (x : plW h W p ser a) (r : rok a f B) (H : Q (some (.inl (whyA a v))) h) : am_R (am_prog scr) (d + 2) f_Stage_whyNot 0 [some (.inr (.inr (((9) : Nat) : Int))), some (.inr (.inr (((p) : Nat) : Int))), some (.inr (.inl (v))), none, none, none] [] h Q := by
  obtain ⟨o1, o2, o3, o4⟩ := hs_oW w x
  have h4 := r.1.1
  have part : ¬ (0 ≤ v ∧ v ≤ 9) → ¬ (10 ≤ v ∧ v ≤ 19) → am_R (am_prog scr) (d + 2) f_Stage_whyNot 53 [some (.inr (.inr (((9) : Nat) : Int))), some (.inr (.inr (((p) : Nat) : Int))), some (.inr (.inl (v))), none, none, none] [] h Q := by
    intro n1 n2
    unfold whyA at H
    rw [if_neg n1, if_neg n2] at H
    refine w_Stage_whyNot_53 hp hs hw ⟨fun c => ?_, fun c => ⟨fun c2 y1 hy1 => ?_, fun c2 => ?_⟩⟩
    · rw [if_neg (by omega), if_neg (by omega)] at H; exact H
    · rw [am_w_id (x := v) (by omega) (by omega), td (by omega), am_w_id (by omega) (by omega), tm (by omega)] at hy1
      have q1 : v / 10 = (v - 100) / 10 + 10 := by omega
      have q2 : v / 10 = (v - 200) / 10 + 20 := by omega
      have q3 : v < 200 → y1 = (v - 100) / 10 := by omega
      have q4 : ¬ v < 200 → y1 = (v - 200) / 10 := by omega
      have q5 : 0 ≤ y1 := by omega
      clear hy1
      refine k_has hs hw hp w x ⟨_, rfl, hw, fun c3 y4 hy4 => ⟨fun c5 => ?_, fun c5 => ?_⟩, fun c3 => ?_⟩
      · rw [i0, Decidable.not_not] at c3
        rw [if_neg (by omega), if_pos (by omega), if_pos (by omega)] at H; exact H
      · rw [i0, Decidable.not_not] at c3
        rw [am_w_id (x := v) (by omega) (by omega), tm (by omega)] at hy4
        have q6 := q3 c5
        rw [← q6, ← hy4] at H
        have q7 : 0 ≤ y4 := by omega
        rw [if_pos (by omega)] at H
        refine k_has hs hw hp w x ⟨_, rfl, hw, fun c6 => ?_, fun c6 => ⟨fun c7 => ?_, fun c7 => ?_⟩⟩
        · rw [i0] at c6
          rw [if_neg (by omega)] at H; exact H
        · rw [if_neg (by omega)] at H; exact H
        · rw [i0, Decidable.not_not] at c6
          rw [if_pos (by omega)] at H; exact H
      · rw [i0] at c3
        by_cases c5 : v < 200
        · rw [if_pos (by omega), if_neg (by omega)] at H; exact H
        · rw [if_neg (by omega), if_pos (by omega), if_neg (by omega)] at H; exact H
    · rw [if_neg (by omega), if_neg (by omega)] at H; exact H
  refine w_Stage_whyNot_0 hp hs hw ?_
  refine k_isBeat hs hw ⟨_, rfl, hw, fun c => ⟨fun c2 => ?_, fun c2 => ⟨fun c3 => ?_, fun c3 => ?_⟩⟩, fun c => ⟨o1, ?_⟩⟩
  · rw [i0] at c; exact part c (by omega)
  · rw [i0] at c; exact part c (by omega)
  · rw [i0] at c
    unfold whyA at H
    rw [if_neg c, if_pos (by omega)] at H; exact H
  · rw [i0, Decidable.not_not] at c
    unfold whyA whyBA at H
    rw [if_pos c] at H
    rw [o2, o3]
    refine ⟨fun c2 => ?_, fun c2 => ?_⟩
    · rw [if_pos (by omega)] at H
      refine k_goesOnC hs hw hp w x r ⟨_, rfl, hw, fun c3 => ?_, fun c3 => ?_⟩
      · have : ovA a := by
          apply Decidable.byContradiction; intro q; rw [if_neg q] at c3; omega
        rw [if_pos this] at H; exact H
      · have : ¬ ovA a := by
          intro q; rw [if_pos q] at c3; omega
        rw [if_neg this] at H; exact H
    · rw [if_neg (by omega)] at H; exact H
theorem k_swapBeds {s o : Int} (hs : am_sc scr) (hw : wf h) (hp : p ∈ PL) (x : plW h W p ser a) (h1 : 0 ≤ s ∧ s < 6) (h2 : 0 ≤ o ∧ o < 6) (H : ∀ g, wf g → fr [p + 1] [] h g → plW g W p ser (chA a s o) → Q none g) : am_R (am_prog scr) d f_Play_swapBeds 0 [some (.inr (.inr (((p) : Nat) : Int))), some (.inl (s)), some (.inl (o)), none] [] h Q := by
  obtain ⟨l1, l2, l3, l4, l5, l6, l7, l8⟩ := pl_lt hp
  refine w_Play_swapBeds_0 hp hs hw ⟨h1, fun y hy => ⟨h2, h1, fun g5 e5 => ⟨h2, fun g7 e7 => ?_⟩⟩⟩
  have fg : fr [p + 1] [] h g7 := by rw [e7, e5]; exact (fr.rfl.put (Or.inl (by simp))).put (Or.inl (by simp))
  obtain ⟨x1, x2, x3, x4⟩ := x
  have b1 := pl_bd x3 h1
  have b2 := pl_bd x3 h2
  obtain ⟨y1, y2, y3, y4, y5, y6, y7⟩ := x3
  have ec : ∀ j, j < 16 ∨ 22 ≤ j → chA a s o j = a j := fun j hj => by
    unfold chA; rw [if_neg (by omega), if_neg (by omega)]
  have es : stA (chA a s o) = stA a := by unfold stA; rw [ec 14 (by omega), ec 12 (by omega), ec 13 (by omega), ec 15 (by omega)]
  have ep : ∀ j, g7.2.2.2 p j = h.2.2.2 p j := fun j => fg.f p j (by simp) (by simp)
  refine H g7 (by rw [e7, e5]; exact (hw.pa l7).pa l7) fg ⟨x1, fun j hj => by rw [ec j (by omega)]; exact x2 j hj, ?_, by rw [ep, ec 29 (by omega)]; exact x4⟩
  rw [es, ec 28 (by omega)]
  refine ⟨by rw [ep]; exact y1, fun t ht => ⟨?_, ?_⟩, by rw [ep]; exact y3, by rw [ep, ec 4 (by omega)]; exact y4, by rw [ep]; exact y5, by rw [ep]; exact y6, by rw [ep]; exact y7⟩
  · rw [chA_at h1.1 h2.1, e7, e5]
    simp only [put_at, true_and]
    rw [hy, b1.1, b2.1, (y2 t ht).1]
    by_cases q : (t : Int) = o
    · rw [if_pos q, if_pos (by omega)]
    · rw [if_neg q, if_neg (by omega)]
      by_cases q2 : (t : Int) = s
      · rw [if_pos q2, if_pos (by omega)]
      · rw [if_neg q2, if_neg (by omega)]
  · rw [fg.f (p + 2) t (by simp) (by simp), ec (22 + t) (by omega)]
    exact (y2 t ht).2
/-- a dream, a hush of the play p -/
theorem plW.drm {s n : Int} (hw : wf h) (hp : p ∈ PL) (x : plW h W p ser a) (h1 : 0 ≤ s ∧ s < 6) : wf (am_put h (p + 2) s.toNat n) ∧ plW (am_put h (p + 2) s.toNat n) W p ser (drA a s n) := by
  obtain ⟨l1, l2, l3, l4, l5, l6, l7, l8⟩ := pl_lt hp
  refine ⟨hw.pa l8, ?_⟩
  obtain ⟨x1, x2, x3, x4⟩ := x
  obtain ⟨y1, y2, y3, y4, y5, y6, y7⟩ := x3
  have ec : ∀ j, j < 22 ∨ 28 ≤ j → drA a s n j = a j := fun j hj => by
    unfold drA; rw [if_neg (by omega)]
  have es : stA (drA a s n) = stA a := by unfold stA; rw [ec 14 (by omega), ec 12 (by omega), ec 13 (by omega), ec 15 (by omega)]
  have ep : ∀ j, (am_put h (p + 2) s.toNat n).2.2.2 p j = h.2.2.2 p j := fun j => put_ne (by omega)
  refine ⟨x1, fun j hj => by rw [ec j (by omega)]; exact x2 j hj, ?_, by rw [ep, ec 29 (by omega)]; exact x4⟩
  rw [es, ec 28 (by omega)]
  refine ⟨by rw [ep]; exact y1, fun t ht => ⟨?_, ?_⟩, by rw [ep]; exact y3, by rw [ep, ec 4 (by omega)]; exact y4, by rw [ep]; exact y5, by rw [ep]; exact y6, by rw [ep]; exact y7⟩
  · rw [put_ne (by omega), ec (16 + t) (by omega)]; exact (y2 t ht).1
  · simp only [put_at, true_and]
    unfold drA
    rw [(y2 t ht).2]
    by_cases q : t = s.toNat
    · rw [if_pos q, if_pos (by omega)]
    · rw [if_neg q, if_neg (by omega)]
theorem plW.hush {n : Int} (hw : wf h) (hp : p ∈ PL) (x : plW h W p ser a) : wf (am_put h p 3 n) ∧ plW (am_put h p 3 n) W p ser (huA a n) := by
  refine ⟨hw.put (pl_np hp (by omega)), ?_⟩
  obtain ⟨x1, x2, x3, x4⟩ := x
  obtain ⟨y1, y2, y3, y4, y5, y6, y7⟩ := x3
  have ec : ∀ j, j ≠ 28 → huA a n j = a j := fun j hj => if_neg hj
  have es : stA (huA a n) = stA a := by unfold stA; rw [ec 14 (by omega), ec 12 (by omega), ec 13 (by omega), ec 15 (by omega)]
  have ep : ∀ j, j ≠ 3 → (am_put h p 3 n).2.2.2 p j = h.2.2.2 p j := fun j hj => put_ne (by omega)
  refine ⟨x1, fun j hj => by rw [ec j (by omega)]; exact x2 j hj, ?_, by rw [ep _ (by omega), ec 29 (by omega)]; exact x4⟩
  rw [es]
  refine ⟨by rw [ep _ (by omega)]; exact y1, fun t ht => ⟨?_, ?_⟩, by rw [put_eq]; rfl, by rw [ep _ (by omega), ec 4 (by omega)]; exact y4, by rw [ep _ (by omega)]; exact y5, by rw [ep _ (by omega)]; exact y6, by rw [ep _ (by omega)]; exact y7⟩
  · rw [put_ne (by omega), ec (16 + t) (by omega)]; exact (y2 t ht).1
  · rw [put_ne (by omega), ec (22 + t) (by omega)]; exact (y2 t ht).2
theorem k_enact {v : Int} (hs : am_sc scr) (hw : wf h) (hp : p ∈ PL) (w : wc h W) (x : plW h W p ser a) (r : rok a (W.2.2.1 ser) B) (hB : B < 1000000) (hy : whyA a v = 0) (H : ∀ g, wf g → fr [10, 11, 12, 13, 14, 15, p, p + 1, p + 2] [] h g → wc g W → plW g W p ser (doA a (W.2.2.1 ser) v) → Q none g) : am_R (am_prog scr) (d + 4) f_Stage_enact 0 [some (.inr (.inr (((9) : Nat) : Int))), some (.inr (.inr (((p) : Nat) : Int))), some (.inl (v))] [] h Q := by
  have h4 := r.1.1
  have hr := whyA_rg hy
  have hn := pl_not hp
  unfold doA at H
  have mo : ∀ {g : am_H} {L : List Nat}, (∀ y ∈ L, y = p ∨ y = p + 1 ∨ y = p + 2) → fr L [] h g → fr [10, 11, 12, 13, 14, 15, p, p + 1, p + 2] [] h g ∧ wc g W := by
    intro g L hL fg
    refine ⟨fg.mono (fun y hy => by rcases hL y hy with e | e | e <;> simp [e]) (by simp), w.fr fg (fun y hy => ?_) (by simp)⟩
    rcases hL y hy with e | e | e <;> omega
  refine w_Stage_enact_0 hp hs hw ?_
  refine k_isBeat hs hw ⟨_, rfl, hw, fun c => ⟨fun c2 => ⟨fun c3 => ?_, fun c3 => ?_⟩, fun c2 g q => ?_⟩, fun c => ?_⟩
  · rw [i0] at c
    rw [if_neg (by omega), if_neg (by omega), if_neg c3] at H
    rw [td (by omega), am_w_id (by omega) (by omega), tm (by omega), tm (by omega)]
    refine ⟨by omega, fun g q => ?_⟩
    have ee : v / 10 % 10 = (v - 200) / 10 := by omega
    rw [ee] at q
    have := plW.drm (n := v % 10) hw hp x (s := (v - 200) / 10) (by omega)
    rw [← q] at this
    have fg : fr [p + 2] [] h g := by rw [q]; exact fr.rfl.put (Or.inl (by simp))
    exact H g this.1 (mo (by simp) fg).1 (mo (by simp) fg).2 this.2
  · rw [i0] at c
    rw [if_neg (by omega), if_neg (by omega), if_pos c3] at H
    rw [td (by omega), am_w_id (by omega) (by omega), tm (by omega), tm (by omega)]
    have ee : v / 10 % 10 = (v - 100) / 10 := by omega
    rw [ee]
    exact k_swapBeds hs hw hp x (by omega) (by omega) (fun g wg fg pg => ⟨rfl, wg, H g wg (mo (by simp) fg).1 (mo (by simp) fg).2 pg⟩)
  · rw [i0] at c
    rw [if_neg (by omega), if_pos (by omega)] at H
    rw [am_w_id (by omega) (by omega)] at q
    have := plW.hush (n := v - 10) hw hp x
    rw [← q] at this
    have fg : fr [p] [] h g := by rw [q]; exact fr.rfl.put (Or.inl (by simp))
    exact H g this.1 (mo (by simp) fg).1 (mo (by simp) fg).2 this.2
  · rw [i0, Decidable.not_not] at c
    rw [if_pos (by omega)] at H
    have hb : 0 ≤ v ∧ v ≤ 9 ∧ whyBA a v = 0 := by omega
    rw [am_w_id (by omega) (by omega)]
    refine k_stepW hs hw hp w x r hB (whyBA_0 hb.2.2).2 (fun g wg fg cg pg => ⟨_, rfl, wg, H g wg (fg.mono (by simp) (by simp)) cg pg⟩)
end WP
