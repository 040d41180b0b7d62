/-! the start: both objects made -/
def am_P0 : am_P := (fun f pc => if f = 0 then .inl o_bad else am_cd (0, fun _ => 0) f pc, am_ml)
def ini1 : am_H := am_mk am_h0 21 19 (am_nz 11)
def iniS : Option (Option am_V × am_H) := am_run am_P0 5000 40 131 0 (am_entry (am_ml 131) [.inr (.inr ((0 : Nat) : Int))]) [] ini1
def iniSh : am_H := (iniS.getD (none, ini1)).2
def ini2 : am_H := am_mk iniSh 22 40 (am_nz 12)
def iniM : Option (Option am_V × am_H) := am_run am_P0 20000 40 2 0 (am_entry (am_ml 2) [.inr (.inr ((109 : Nat) : Int))]) [] ini2
def iniH0 : am_H := (iniM.getD (none, ini2)).2
theorem iniS_t : iniS.isSome = true ∧ (iniS.getD (none, ini1)).1 = none ∧ iniSh.1 = 109 := by decide +kernel
theorem iniM_t : iniM.isSome = true ∧ (iniM.getD (none, ini2)).1 = none := by decide +kernel
theorem ini_k : iniH0.1 = 133 ∧ iniH0.2.1 = 47498 ∧ ∀ i, i < 133 → iniH0.2.2.1 i = wk i := by decide +kernel
theorem ini_r : ∀ q ∈ wr_l, iniH0.2.2.2 q.1 q.2.1 = (q.2.2 : Int) := by decide +kernel
theorem ini_v : (iniH0.2.2.2 21 0 = 0 ∧ iniH0.2.2.2 21 1 = 1 ∧ iniH0.2.2.2 21 2 = 1 ∧ iniH0.2.2.2 21 3 = 1 ∧ iniH0.2.2.2 21 4 = 0 ∧ iniH0.2.2.2 21 9 = 0 ∧ iniH0.2.2.2 21 11 = 0 ∧ iniH0.2.2.2 21 12 = -1 ∧ iniH0.2.2.2 21 13 = -1) ∧ (iniH0.2.2.2 24 0 = 21 ∧ iniH0.2.2.2 24 3 = 0 ∧ iniH0.2.2.2 24 4 = -1 ∧ iniH0.2.2.2 24 5 = 0 ∧ iniH0.2.2.2 24 6 = 0 ∧ iniH0.2.2.2 24 7 = 0 ∧ iniH0.2.2.2 24 8 = 1) ∧ (iniH0.2.2.2 63 1 = 0 ∧ iniH0.2.2.2 63 2 = 0 ∧ iniH0.2.2.2 30 4 = -1 ∧ iniH0.2.2.2 57 5 = -1 ∧ iniH0.2.2.2 9 7 = 0 ∧ iniH0.2.2.2 43 1 = 44 ∧ iniH0.2.2.2 43 2 = 45) ∧ (iniH0.2.2.2 0 1 = 0 ∧ iniH0.2.2.2 0 2 = 0 ∧ iniH0.2.2.2 0 3 = -1 ∧ iniH0.2.2.2 0 4 = 0 ∧ iniH0.2.2.2 2 2 = 0 ∧ iniH0.2.2.2 109 5 = 0 ∧ iniH0.2.2.2 109 13 = 0 ∧ iniH0.2.2.2 109 14 = -1) := by decide +kernel
theorem ini_w : (∀ s, s < 6 → iniH0.2.2.2 25 s = 0 ∧ iniH0.2.2.2 26 s = 0) ∧ (∀ i, i < 2 → iniH0.2.2.2 19 i = 0 ∧ iniH0.2.2.2 111 i = 0) ∧ (∀ t, t < 4 → iniH0.2.2.2 (95 + 2 * t) 0 = 1 ∧ iniH0.2.2.2 (95 + 2 * t) 2 = 0 ∧ iniH0.2.2.2 130 t = -1 ∧ iniH0.2.2.2 131 t = 0) ∧ (∀ k, k < 180 → iniH0.2.2.2 16 k = 0) ∧ (∀ j, j < 212 → iniH0.2.2.2 110 j = if j = 1 ∨ j = 2 ∨ j = 3 ∨ j = 15 then 1 else 0) := by decide +kernel
