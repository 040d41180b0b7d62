/-! what the deeds do to the reference's row -/
def nxO (a b : Nat → Int) (f : Nat → (Nat → Int) → Int) (C : Int) : Prop := hok b f C ∧ ∀ j, 1112 ≤ j → b j = a j
section NX
variable {a b : Nat → Int} {f : Nat → (Nat → Int) → Int} {B : Int}
theorem hok.le {C : Int} (h : hok a f B) (hc : B ≤ C) : hok a f C := ⟨h.1.le hc, h.2.1, fun i hi => (h.2.2 i hi).le hc⟩
theorem nxO.self (h : hok a f B) : nxO a a f (B + 1000) := ⟨h.le (by omega), fun _ _ => rfl⟩
theorem push_hi {w : Nat → Int} (h30 : 0 ≤ b 30 ∧ b 30 ≤ 10) {j : Nat} (hj : 1112 ≤ j) : pushA w b j = b j := by
  unfold pushA
  split
  · rw [if_neg (by omega), if_neg (by omega)]
  · rw [if_neg (by omega), if_neg (by omega)]
theorem nxO.push {C : Int} (h : hok a f B) (al : alike a b) (r : rok b f C) (h1 : B ≤ C) (h2 : C ≤ B + 1000) : nxO a (pushA (wasA a) b) f (B + 1000) := by
  refine ⟨(push_ok h al r h1).le h2, fun j hj => ?_⟩
  rw [push_hi (by rw [al 30 (by omega)]; exact h.2.1) hj, al j (by omega)]
theorem nx_beat (h : hok a f B) (v : Int) : nxO a (q_beat a f v).2 f (B + 1000) := by
  unfold q_beat
  split
  · rename_i c
    have ho : ¬ ovA a := by
      unfold whyBA at c
      split at c
      · split at c
        · omega
        · assumption
      · omega
    exact nxO.push h gbA_al (gbA_ok h.1 ho (v - 1)) (by omega) (by omega)
  · exact nxO.self h
theorem nx_beats (h : hok a f B) (n : Int) : nxO a (q_beats a f n).2 f (B + 1000) := by
  unfold q_beats
  split
  · split
    · exact nxO.self h
    · exact nxO.push h (btsA_al _ _) (btsA_ok n.toNat a B h.1).1 (by omega) (by omega)
  · exact nxO.self h
theorem nx_change (h : hok a f B) (s o : Int) : nxO a (q_change a s o).2 f (B + 1000) := by
  have h4 := h.1.1.1
  unfold q_change
  split
  · rename_i c
    refine nxO.push h (fun j hj => ?_) (chA_ok h.1 c.1 c.2.1 c.2.2) (by omega) (by omega)
    unfold chA
    rw [if_neg (by omega), if_neg (by omega)]
  · exact nxO.self h
theorem nx_dream (h : hok a f B) (s n : Int) : nxO a (q_dream a s n).2 f (B + 1000) := by
  have h4 := h.1.1.1
  unfold q_dream
  split
  · rename_i c
    refine nxO.push h (fun j hj => ?_) (drA_ok h.1 c.1 c.2) (by omega) (by omega)
    unfold drA
    rw [if_neg (by omega)]
  · exact nxO.self h
theorem nx_hush (h : hok a f B) (n : Int) : nxO a (q_hush a n).2 f (B + 1000) := by
  unfold q_hush
  split
  · rename_i c
    refine nxO.push h (fun j hj => ?_) (huA_ok h.1 c) (by omega) (by omega)
    unfold huA
    rw [if_neg (by omega)]
  · exact nxO.self h
theorem nx_undo (h : hok a f B) (n : Int) : nxO a (q_undo a n).2 f (B + 1000) := by
  unfold q_undo
  split
  · rename_i c
    refine ⟨(und_ok h c).le (by omega), fun j hj => ?_⟩
    show undA a n j = a j
    unfold undA
    rw [if_neg (by omega), if_neg (by omega)]
  · exact nxO.self h
theorem nx_perform (h : hok a f B) (num : Nat → Int) {n : Nat} (hn : n ≤ 40) : nxO a (q_perform a f num n).2 f (B + 1000) := by
  unfold q_perform
  simp only
  split
  · exact nxO.push h (telA_al n 0 a (by have := h.1.1.1; omega)) (telA_ok n 0 a B h.1).1 (by omega) (by omega)
  · exact nxO.self h
theorem nx_night (h : hok a f B) (x n : Int) : nxO a (q_night a f x n).2 f (B + 1000) := by
  unfold q_night
  split
  · simp only
    split
    · exact nxO.push h (nigA_al n.toNat x 0 a (by have := h.1.1.1; omega)) (nigA_ok n.toNat x 0 a B h.1).1 (by omega) (by omega)
    · exact nxO.self h
  · exact nxO.self h
end NX
