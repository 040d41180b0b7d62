/-! the law: from its start to its end -/
def W0 : Wd := (0, fun _ => iniH0.2.2.2 110, fun _ _ _ => 0, fun _ => 21)
theorem ini_row (j : Nat) (hj : j < 212) : iniH0.2.2.2 110 j = if j = 1 ∨ j = 2 ∨ j = 3 ∨ j = 15 then 1 else 0 := ini_w.2.2.2.2 j hj
theorem ini_G : gI iniH0 W0 0 0 (iniH0.2.2.2 110) ∧ szI iniH0 0 W0 := by
  obtain ⟨⟨v0, v1, v2, v3, v4, v9, v11, v12, v13⟩, ⟨p0, p3, p4, p5, p6, p7, p8⟩, ⟨r1, r2, r3, r4, r5, r6, r7⟩, ⟨s1, s2, s3, s4, s5, s6, s7, s8⟩⟩ := ini_v
  obtain ⟨w1, w2, w3, w4, _⟩ := ini_w
  obtain ⟨k1, k2, k3⟩ := ini_k
  have cm : ∀ sl, sl < 6480 → iniH0.2.2.2 11 sl = 0 ∧ iniH0.2.2.2 13 sl = 0 := fun sl hsl => by rw [ini_f 11 (by omega), ini_f 13 (by omega)]; exact ini_c sl hsl
  have ir := ini_r
  have row := ini_row
  have wfi : wf iniH0 := ⟨by rw [k1]; exact Nat.le_refl _, k3, ir⟩
  have k21 : iniH0.2.2.1 21 = (11, 14) := (k3 21 (by omega)).trans (by decide +kernel)
  generalize iniH0 = H at *
  sorry
