theorem law_run {L : Nat} {xs : Nat → Int32} (hL : L ≤ 3072) : am_R (am_prog (L, fun i => (xs i).toInt)) 2046 0 0 [some (.inr (.inr (-1000))), none, none, none] [] am_h0 (fun v t => v = some (.inl 1) ∧ t.1 ≤ 600000 ∧ t.2.1 ≤ 7302250) := by
  have hs : am_sc (L, fun i => (xs i).toInt) := ⟨hL, fun i => am_wr (xs i)⟩
  have G : gI iniH0 (W0 iniH0) 0 (1000 * ((0 : Nat) : Int)) (iniH0.2.2.2 110) := ini_G
  exact law_start (d := 2005) (law_loop (d := 1974) hs 513 0 iniH0 (W0 iniH0) 0 _ (by omega) G ini_Z)
