/-! a text as it is read: its head -/
section TH
variable {T : Nat → Int} {N p : Nat}
theorem tk_wl {w : Nat} (t : ∀ k, 0 ≤ T k ∧ T k < 256) (hp : p ≤ N) (hw : w < 24) (h : tkK T N p = (w : Int)) : p + kwN w ≤ tkE T N p ∧ tkE T N p ≤ N := by
  have e := tk_word t hw h
  have b := tk_b (T := T) hp
  omega
theorem head_I (t : ∀ k, 0 ≤ T k ∧ T k < 256) {z : DS × Nat} (h : headF T N = .inr z) : dsI z.1 z.2 ∧ z.2 ≤ N := by
  unfold headF at h
  obtain ⟨p1, h1, h⟩ := eB_inr h
  obtain ⟨k1, e1⟩ := wN_inr h1
  obtain ⟨p2, h2, h⟩ := eB_inr h
  obtain ⟨k2, e2⟩ := wN_inr h2
  obtain ⟨r1, h3, h⟩ := eB_inr h
  obtain ⟨k3, l3, v3, e3⟩ := nN_inr h3
  obtain ⟨p4, h4, h⟩ := eB_inr h
  obtain ⟨k4, e4⟩ := wN_inr h4
  obtain ⟨r2, h5, h⟩ := eB_inr h
  obtain ⟨k5, l5, v5, e5⟩ := nN_inr h5
  obtain ⟨p6, h6, h⟩ := eB_inr h
  obtain ⟨k6, e6⟩ := wN_inr h6
  obtain ⟨r3, h7, h⟩ := eB_inr h
  obtain ⟨k7, l7, v7, e7⟩ := nN_inr h7
  obtain ⟨p8, h8, h⟩ := eB_inr h
  obtain ⟨k8, e8⟩ := wN_inr h8
  simp only at k8 e8
  simp only [Sum.inr.injEq] at h
  subst h
  have q1 := tk_wl (w := 0) t (Nat.zero_le N) (by omega) k1
  rw [← e1] at q1
  have q2 := tk_wl (w := 1) t q1.2 (by omega) k2
  rw [← e2] at q2
  have q3 := tk_gt q2.2 (show tkK T N p2 ≠ 26 by omega)
  rw [← e3] at q3
  have q4 := tk_wl (w := 2) t q3.2 (by omega) k4
  rw [← e4] at q4
  have q5 := tk_gt q4.2 (show tkK T N p4 ≠ 26 by omega)
  rw [← e5] at q5
  have q6 := tk_wl (w := 3) t q5.2 (by omega) k6
  rw [← e6] at q6
  have q7 := tk_gt q6.2 (show tkK T N p6 ≠ 26 by omega)
  rw [← e7] at q7
  have q8 := tk_gt q7.2 (show tkK T N r3.2 ≠ 26 by omega)
  rw [← e8] at q8
  have w0 : kwN 0 = 5 := rfl
  have w1 : kwN 1 = 4 := rfl
  have w2 : kwN 2 = 6 := rfl
  have w3 : kwN 3 = 4 := rfl
  show (dsA (up (up (up (up row0 1 r1.1) 2 r2.1) 3 r3.1) 0 ((up (up (up row0 1 r1.1) 2 r2.1) 3 r3.1) 0 + 1)) p8 ∧ dsL (up (up (up (up row0 1 r1.1) 2 r2.1) 3 r3.1) 0 ((up (up (up row0 1 r1.1) 2 r2.1) 3 r3.1) 0 + 1)) ds0.2 0 ∧ dsL (up (up (up (up row0 1 r1.1) 2 r2.1) 3 r3.1) 0 ((up (up (up row0 1 r1.1) 2 r2.1) 3 r3.1) 0 + 1)) ds0.2 1) ∧ p8 ≤ N
  generalize hA : up (up (up (up row0 1 r1.1) 2 r2.1) 3 r3.1) 0 ((up (up (up row0 1 r1.1) 2 r2.1) 3 r3.1) 0 + 1) = A
  have a0 : A 0 = 1 := by rw [← hA]; rfl
  have a1 : A 1 = r1.1 := by rw [← hA]; rfl
  have a2 : A 2 = r2.1 := by rw [← hA]; rfl
  have a3 : A 3 = r3.1 := by rw [← hA]; rfl
  have ao : ∀ j, 4 ≤ j → A j = 0 := fun j hj => by
    rw [← hA, up_ne (by omega), up_ne (by omega), up_ne (by omega), up_ne (by omega)]
    unfold row0
    rw [if_neg (by omega)]
  refine ⟨⟨⟨by omega, by omega, by omega, by rw [ao 4 (by omega)]; omega, fun s hs => by rw [ao (16 + s) (by omega), ao (22 + s) (by omega)]; omega, fun s hs hl => ?_, fun s u hs hu ls lu => ?_, by rw [ao 5 (by omega)]; omega, by rw [ao 12 (by omega), ao 4 (by omega)]; omega, by rw [ao 13 (by omega)]; omega, by rw [ao 14 (by omega), ao 15 (by omega), ao 29 (by omega), ao 30 (by omega)]; omega, by rw [ao 28 (by omega)]; omega, by omega, by rw [ao 211 (by omega)]; omega, by omega⟩, ⟨Or.inl (ao 6 (by omega)), fun z => ?_⟩, ⟨Or.inl (ao 7 (by omega)), fun z => ?_⟩⟩, by omega⟩
  · rw [ao 4 (by omega)] at hl; omega
  · rw [ao 4 (by omega)] at ls; omega
  · rw [ao 6 (by omega)] at z; omega
  · rw [ao 7 (by omega)] at z; omega
end TH
