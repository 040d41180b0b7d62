/-! the next token: the class -/
/-- the class's text -/
def teC (h : am_H) (T : Nat → Int) (N : Nat) : Prop := N ≤ 900 ∧ h.2.2.2 3 0 = 1 ∧ h.2.2.2 3 1 = (N : Int) ∧ (∀ k, k < N → (-128 ≤ h.2.2.2 1 k ∧ h.2.2.2 1 k < 128) ∧ h.2.2.2 1 k % 256 = T k) ∧ ∀ k, 0 ≤ T k ∧ T k < 256
def ADF : List (Nat × Nat) := [(3, 2), (3, 3), (3, 4), (3, 5)]
section AD
variable {scr : Nat × (Nat → Int)} {d : Nat} {h : am_H} {Q : Option am_V → am_H → Prop} {T : Nat → Int} {N : Nat}
theorem teC.fr {g : am_H} (t : teC h T N) (q : fr [] ADF h g) : teC g T N := by
  obtain ⟨t1, t2, t3, t4, t5⟩ := t
  refine ⟨t1, by rw [q.f 3 0 (by simp) (by decide)]; exact t2, by rw [q.f 3 1 (by simp) (by decide)]; exact t3, fun k hk => by rw [q.c 1 (by simp) (by decide)]; exact t4 k hk, t5⟩
theorem teC.at {k : Nat} (t : teC h T N) (hw : wf h) (hk : k < N) : am_inA h (h.2.2.2 3 0) 3 (k : Int) ∧ (-128 ≤ h.2.2.2 (h.2.2.2 3 0).toNat ((k : Int)).toNat ∧ h.2.2.2 (h.2.2.2 3 0).toNat ((k : Int)).toNat < 128) ∧ h.2.2.2 (h.2.2.2 3 0).toNat ((k : Int)).toNat % 256 = T k := by
  obtain ⟨t1, t2, t3, t4, t5⟩ := t
  rw [t2, Int.toNat_natCast, show (1 : Int).toNat = 1 from rfl]
  have v1 : wk 1 = (3, 900) := by decide +kernel
  exact ⟨hw.a (i := 1) (by omega) v1 (by omega) (by omega), t4 k hk⟩
end AD
