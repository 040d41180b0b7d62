/-! the law's loop: a house -/
section HSx
variable {h g k : am_H} {W : Wd} {ser sr p : Nat} {B : Int} {a b : Nat → Int} {f : Nat → (Nat → Int) → Int}
/-- the world with one house more, at cell c -/
def addW (W : Wd) (c : Nat) (b : Nat → Int) (f : Nat → (Nat → Int) → Int) : Wd := (W.1 + 1, fun s => if s = W.1 + 1 then b else W.2.1 s, fun s => if s = W.1 + 1 then f else W.2.2.1 s, fun s => if s = W.1 + 1 then c else W.2.2.2 s)
theorem addW_lo {c s : Nat} (hs : s ≤ W.1) : (addW W c b f).2.1 s = W.2.1 s ∧ (addW W c b f).2.2.1 s = W.2.2.1 s ∧ (addW W c b f).2.2.2 s = W.2.2.2 s := by
  unfold addW
  simp only
  rw [if_neg (by omega), if_neg (by omega), if_neg (by omega)]
  exact ⟨rfl, rfl, rfl⟩
theorem addW_hi {c : Nat} : (addW W c b f).2.1 (W.1 + 1) = b ∧ (addW W c b f).2.2.1 (W.1 + 1) = f ∧ (addW W c b f).2.2.2 (W.1 + 1) = c := by
  unfold addW
  simp only
  rw [if_pos trivial, if_pos trivial, if_pos trivial]
  exact ⟨rfl, rfl, rfl⟩
theorem plW.add {c : Nat} (x : plW h W p sr a) : plW h (addW W c b f) p sr a := by
  obtain ⟨x1, x2, x3, x4⟩ := x
  obtain ⟨e1, e2, e3⟩ := addW_lo (b := b) (f := f) (c := c) x1
  exact ⟨by show sr ≤ W.1 + 1; omega, fun j hj => by rw [e1]; exact x2 j hj, by rw [e3]; exact x3, x4⟩
/-- old houses stay, and what was reckoned for them -/
theorem wc.add {c : Nat} (x : wc h W) (hr : hrI h W) (hk : W.1 + 1 ≤ 600) (e1 : ∀ d, d < h.1 → g.2.2.1 d = h.2.2.1 d) (e2 : ∀ d, 133 ≤ d ∨ d = 21 ∨ (10 ≤ d ∧ d ≤ 13) → d < h.1 → g.2.2.2 d = h.2.2.2 d) (hg : h.1 ≤ g.1) (h133 : 133 ≤ h.1) (new : hsC g c b f ∧ g.2.2.2 c 0 = ((W.1 + 1 : Nat) : Int) ∧ c < g.1) : wc g (addW W c b f) := by
  obtain ⟨x1, ⟨x2, x3⟩, x4⟩ := x
  have lw : ∀ r t F, (∀ l : Nat, r = (l : Int) → l < h.1) → lwC h r t F → lwC g r t F := by
    intro r t F hr w
    rcases w with w | ⟨w1, l, m, w2, w3, w4, w5⟩
    · exact Or.inl w
    · have := hr l w2
      exact Or.inr ⟨w1, l, m, w2, w3, by rw [e1 l this]; exact w4, by rw [e2 l (by omega) this]; exact w5⟩
  refine ⟨hk, ⟨?_, fun s hs => ?_⟩, ?_⟩
  · obtain ⟨a1, a2, a3⟩ := addW_lo (b := b) (f := f) (c := c) (Nat.zero_le W.1)
    rw [a1]; exact x2
  · rcases Nat.lt_or_ge W.1 s with l | l
    · obtain rfl : s = W.1 + 1 := by have : s ≤ W.1 + 1 := hs; omega
      obtain ⟨a1, a2, a3⟩ := addW_hi (W := W) (b := b) (f := f) (c := c)
      rw [a1, a2, a3]
      exact new
    · obtain ⟨a1, a2, a3⟩ := addW_lo (b := b) (f := f) (c := c) l
      obtain ⟨y1, y2, y3⟩ := x3 s l
      rw [a1, a2, a3]
      have ec := e2 (W.2.2.2 s) (by have := y1.1; omega) y3
      refine ⟨?_, by rw [ec]; exact y2, by omega⟩
      obtain ⟨c1, c2, c3, c4, c5, c6, c7, c8, c9, c10⟩ := y1
      have hb := hr.2 s l
      unfold hsC
      rw [ec, e1 _ y3]
      exact ⟨c1, c2, c3, c4, c5, c6, c7, c8, lw _ _ _ (fun l hl => by omega) c9, lw _ _ _ (fun l hl => by omega) c10⟩
  · intro sl hsl
    have e10 := e2 10 (by omega) (by omega)
    have e11 := e2 11 (by omega) (by omega)
    have e12 := e2 12 (by omega) (by omega)
    have e13 := e2 13 (by omega) (by omega)
    have LE : ∀ s i, s ≤ W.1 → LWo (addW W c b f) s i = LWo W s i := fun s i hs => by
      obtain ⟨a1, a2, a3⟩ := addW_lo (b := b) (f := f) (c := c) hs
      unfold LWo
      rw [a1, a2]
    obtain ⟨z1, z2⟩ := x4 sl hsl
    rw [e10, e11, e12, e13]
    refine ⟨?_, ?_⟩
    · rcases z1 with z1 | ⟨z1, z3, z4⟩
      · exact Or.inl z1
      · refine Or.inr ⟨z1, by show _ < 100 * (((W.1 + 1 : Nat) : Int) + 1); omega, ?_⟩
        rw [LE _ _ (by omega)]; exact z4
    · rcases z2 with z2 | ⟨z1, z3, z4⟩
      · exact Or.inl z2
      · refine Or.inr ⟨z1, by show _ < 100 * (((W.1 + 1 : Nat) : Int) + 1); omega, ?_⟩
        rw [LE _ _ (by omega)]; exact z4
end HSx
