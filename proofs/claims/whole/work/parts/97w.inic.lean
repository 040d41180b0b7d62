/-! the start: no marks -/
theorem ini_c1 : ∀ q, q < 27 → ∀ r, r < 80 → iniSh.2.2.2 11 (80 * q + r) = 0 := by decide +kernel
theorem ini_c2 : ∀ q, q < 27 → ∀ r, r < 80 → iniSh.2.2.2 11 (2160 + (80 * q + r)) = 0 := by decide +kernel
theorem ini_c3 : ∀ q, q < 27 → ∀ r, r < 80 → iniSh.2.2.2 11 (4320 + (80 * q + r)) = 0 := by decide +kernel
theorem ini_c4 : ∀ q, q < 27 → ∀ r, r < 80 → iniSh.2.2.2 13 (80 * q + r) = 0 := by decide +kernel
theorem ini_c5 : ∀ q, q < 27 → ∀ r, r < 80 → iniSh.2.2.2 13 (2160 + (80 * q + r)) = 0 := by decide +kernel
theorem ini_c6 : ∀ q, q < 27 → ∀ r, r < 80 → iniSh.2.2.2 13 (4320 + (80 * q + r)) = 0 := by decide +kernel
theorem ini_c (sl : Nat) (h : sl < 6480) : iniSh.2.2.2 11 sl = 0 ∧ iniSh.2.2.2 13 sl = 0 := by
  rcases (by omega : sl < 2160 ∨ (2160 ≤ sl ∧ sl < 4320) ∨ 4320 ≤ sl) with c | c | c
  · have a := ini_c1 (sl / 80) (by omega) (sl % 80) (by omega)
    have b := ini_c4 (sl / 80) (by omega) (sl % 80) (by omega)
    rw [show 80 * (sl / 80) + sl % 80 = sl by omega] at a b
    exact ⟨a, b⟩
  · have a := ini_c2 ((sl - 2160) / 80) (by omega) ((sl - 2160) % 80) (by omega)
    have b := ini_c5 ((sl - 2160) / 80) (by omega) ((sl - 2160) % 80) (by omega)
    rw [show 2160 + (80 * ((sl - 2160) / 80) + (sl - 2160) % 80) = sl by omega] at a b
    exact ⟨a, b⟩
  · have a := ini_c3 ((sl - 4320) / 80) (by omega) ((sl - 4320) % 80) (by omega)
    have b := ini_c6 ((sl - 4320) / 80) (by omega) ((sl - 4320) % 80) (by omega)
    rw [show 4320 + (80 * ((sl - 4320) / 80) + (sl - 4320) % 80) = sl by omega] at a b
    exact ⟨a, b⟩
