/-! the reference: small methods. A row of it by an Int place -/
def al (h : am_H) (i : Int) : Int := h.2.2.2 110 i.toNat
theorem am_wi {x : Int} (h : -2147483648 ≤ x ∧ x < 2147483648) : am_w x = x := am_w_id h.1 h.2
section M1
variable {scr : Nat × (Nat → Int)} {d : Nat} {h : am_H} {Q : Option am_V → am_H → Prop}
theorem k_within {x0 x2 x4 : Int} (hs : am_sc scr) (hw : wf h) (H : Q (some (.inl (if x2 ≤ x0 ∧ x0 ≤ x4 then 1 else 0))) h) : am_R (am_prog scr) d f_M_within 0 [some (.inr (.inl x0)), none, some (.inr (.inl x2)), none, some (.inr (.inl x4)), none] [] h Q := by
  refine w_M_within_0 hs hw ⟨fun c => ?_, fun c => ⟨fun c2 => ?_, fun c2 => ?_⟩⟩
  · rw [if_neg (by omega)] at H; exact H
  · rw [if_neg (by omega)] at H; exact H
  · rw [if_pos (by omega)] at H; exact H
def lastI (x : Int) : Int := (x / 12) % 6
def soundI (x : Int) : Int := (x / 2) % 6
def actI (x : Int) : Int := x / 72
theorem td {a b : Int} (h : 0 ≤ a) : a.tdiv b = a / b := Int.tdiv_eq_ediv_of_nonneg h
theorem tm {a b : Int} (h : 0 ≤ a) : a.tmod b = a % b := Int.tmod_eq_emod_of_nonneg h
theorem k_lastIn {x : Int} (hs : am_sc scr) (hw : wf h) (hx : 0 ≤ x ∧ x < 400) (H : Q (some (.inl (lastI x))) h) : am_R (am_prog scr) d f_M_lastIn 0 [some (.inl x)] [] h Q := by
  refine w_M_lastIn_0 hs hw ?_
  rw [td hx.1, am_wi (by omega), tm (by omega)]
  exact H
theorem k_soundIn {x : Int} (hs : am_sc scr) (hw : wf h) (hx : 0 ≤ x ∧ x < 400) (H : Q (some (.inl (soundI x))) h) : am_R (am_prog scr) d f_M_soundIn 0 [some (.inl x)] [] h Q := by
  refine w_M_soundIn_0 hs hw ?_
  rw [td hx.1, am_wi (by omega), tm (by omega)]
  exact H
theorem k_actIn {x : Int} (hs : am_sc scr) (hw : wf h) (hx : 0 ≤ x ∧ x < 400) (H : Q (some (.inl (actI x))) h) : am_R (am_prog scr) d f_M_actIn 0 [some (.inl x)] [] h Q := by
  refine w_M_actIn_0 hs hw ?_
  rw [td hx.1, am_wi (by omega)]
  exact H
def standI (a l s t : Int) : Int := 72 * a + 12 * l + 2 * s + t
theorem k_standOf {a l s t : Int} (hs : am_sc scr) (hw : wf h) (hx : 0 ≤ a ∧ a < 5 ∧ 0 ≤ l ∧ l < 6 ∧ 0 ≤ s ∧ s < 6 ∧ 0 ≤ t ∧ t < 2) (H : Q (some (.inl (standI a l s t))) h) : am_R (am_prog scr) d f_M_standOf 0 [some (.inl a), some (.inl l), some (.inl s), some (.inl t)] [] h Q := by
  refine w_M_standOf_0 hs hw ?_
  simp (disch := omega) only [am_w_id]
  exact H
theorem k_farOf {x y : Int} (hs : am_sc scr) (hw : wf h) (hx : 0 ≤ x ∧ x < 6 ∧ 0 ≤ y ∧ y < 6) (hb : 0 ≤ al h (16 + x) ∧ al h (16 + x) < 6 ∧ 0 ≤ al h (16 + y) ∧ al h (16 + y) < 6) (H : Q (some (.inl (if al h (16 + x) - al h (16 + y) < 0 then -(al h (16 + x) - al h (16 + y)) else al h (16 + x) - al h (16 + y)))) h) : am_R (am_prog scr) d f_M_farOf 0 [some (.inr (.inr ((109 : Nat) : Int))), some (.inl x), some (.inl y), none] [] h Q := by
  refine w_M_farOf_0 hs hw ?_
  simp (disch := omega) only [am_w_id]
  refine ⟨by omega, by omega, fun z hz => ?_⟩
  change z = am_w (al h (16 + x) - al h (16 + y)) at hz
  rw [am_wi (by omega)] at hz
  refine ⟨fun c => ?_, fun c => ?_⟩
  · rw [if_neg (by omega), ← hz] at H; exact H
  · rw [if_pos (by omega), ← hz] at H; rw [am_wi (by omega)]; exact H
end M1
