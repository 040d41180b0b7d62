/-! the start: no marks -/
theorem ini_c11_0 : ∀ q, q < 27 → ∀ r, r < 40 → iniSh.2.2.2 11 (0 + (40 * q + r)) = 0 := by decide +kernel
theorem ini_c11_1 : ∀ q, q < 27 → ∀ r, r < 40 → iniSh.2.2.2 11 (1080 + (40 * q + r)) = 0 := by decide +kernel
theorem ini_c11_2 : ∀ q, q < 27 → ∀ r, r < 40 → iniSh.2.2.2 11 (2160 + (40 * q + r)) = 0 := by decide +kernel
theorem ini_c11_3 : ∀ q, q < 27 → ∀ r, r < 40 → iniSh.2.2.2 11 (3240 + (40 * q + r)) = 0 := by decide +kernel
theorem ini_c11_4 : ∀ q, q < 27 → ∀ r, r < 40 → iniSh.2.2.2 11 (4320 + (40 * q + r)) = 0 := by decide +kernel
theorem ini_c11_5 : ∀ q, q < 27 → ∀ r, r < 40 → iniSh.2.2.2 11 (5400 + (40 * q + r)) = 0 := by decide +kernel
theorem ini_c13_0 : ∀ q, q < 27 → ∀ r, r < 40 → iniSh.2.2.2 13 (0 + (40 * q + r)) = 0 := by decide +kernel
theorem ini_c13_1 : ∀ q, q < 27 → ∀ r, r < 40 → iniSh.2.2.2 13 (1080 + (40 * q + r)) = 0 := by decide +kernel
theorem ini_c13_2 : ∀ q, q < 27 → ∀ r, r < 40 → iniSh.2.2.2 13 (2160 + (40 * q + r)) = 0 := by decide +kernel
theorem ini_c13_3 : ∀ q, q < 27 → ∀ r, r < 40 → iniSh.2.2.2 13 (3240 + (40 * q + r)) = 0 := by decide +kernel
theorem ini_c13_4 : ∀ q, q < 27 → ∀ r, r < 40 → iniSh.2.2.2 13 (4320 + (40 * q + r)) = 0 := by decide +kernel
theorem ini_c13_5 : ∀ q, q < 27 → ∀ r, r < 40 → iniSh.2.2.2 13 (5400 + (40 * q + r)) = 0 := by decide +kernel
theorem ini_c (sl : Nat) (h : sl < 6480) : iniSh.2.2.2 11 sl = 0 ∧ iniSh.2.2.2 13 sl = 0 := by
  rcases (by omega : sl < 1080 ∨ (1080 ≤ sl ∧ sl < 2160) ∨ (2160 ≤ sl ∧ sl < 3240) ∨ (3240 ≤ sl ∧ sl < 4320) ∨ (4320 ≤ sl ∧ sl < 5400) ∨ 5400 ≤ sl) with c | c | c | c | c | c
  · have a := ini_c11_0 ((sl - 0) / 40) (by omega) ((sl - 0) % 40) (by omega)
    have b := ini_c13_0 ((sl - 0) / 40) (by omega) ((sl - 0) % 40) (by omega)
    rw [show 0 + (40 * ((sl - 0) / 40) + (sl - 0) % 40) = sl by omega] at a b
    exact ⟨a, b⟩
  · have a := ini_c11_1 ((sl - 1080) / 40) (by omega) ((sl - 1080) % 40) (by omega)
    have b := ini_c13_1 ((sl - 1080) / 40) (by omega) ((sl - 1080) % 40) (by omega)
    rw [show 1080 + (40 * ((sl - 1080) / 40) + (sl - 1080) % 40) = sl by omega] at a b
    exact ⟨a, b⟩
  · have a := ini_c11_2 ((sl - 2160) / 40) (by omega) ((sl - 2160) % 40) (by omega)
    have b := ini_c13_2 ((sl - 2160) / 40) (by omega) ((sl - 2160) % 40) (by omega)
    rw [show 2160 + (40 * ((sl - 2160) / 40) + (sl - 2160) % 40) = sl by omega] at a b
    exact ⟨a, b⟩
  · have a := ini_c11_3 ((sl - 3240) / 40) (by omega) ((sl - 3240) % 40) (by omega)
    have b := ini_c13_3 ((sl - 3240) / 40) (by omega) ((sl - 3240) % 40) (by omega)
    rw [show 3240 + (40 * ((sl - 3240) / 40) + (sl - 3240) % 40) = sl by omega] at a b
    exact ⟨a, b⟩
  · have a := ini_c11_4 ((sl - 4320) / 40) (by omega) ((sl - 4320) % 40) (by omega)
    have b := ini_c13_4 ((sl - 4320) / 40) (by omega) ((sl - 4320) % 40) (by omega)
    rw [show 4320 + (40 * ((sl - 4320) / 40) + (sl - 4320) % 40) = sl by omega] at a b
    exact ⟨a, b⟩
  · have a := ini_c11_5 ((sl - 5400) / 40) (by omega) ((sl - 5400) % 40) (by omega)
    have b := ini_c13_5 ((sl - 5400) / 40) (by omega) ((sl - 5400) % 40) (by omega)
    rw [show 5400 + (40 * ((sl - 5400) / 40) + (sl - 5400) % 40) = sl by omega] at a b
    exact ⟨a, b⟩
