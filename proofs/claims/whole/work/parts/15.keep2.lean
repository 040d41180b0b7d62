/-! the same of the two operations on more than one cell -/
theorem am_ok.rows {len : Nat} : ∀ (k : Nat) {lv : am_Lv} {st : am_St} {h : am_H}, am_ok lv st h → am_ok lv st (am_rows len k h) := by
  intro k
  induction k with
  | zero => intro lv st h ok; exact ok
  | succ k ih =>
    intro lv st h ok
    rw [am_rows]
    exact ih (ok.mk (fun i _ => am_xr0 ⟨by decide, by decide⟩) (fun q => by omega))
theorem pv_multi {nx : Nat} : am_Pv (o_multi nx) := by
  intro lv st h pc' lv' st' h' hF
  unfold o_multi at hF
  split at hF
  · rename_i n2 n1 r
    split at hF
    · rename_i ho
      cases hF
      refine ⟨fun ok => ⟨(am_ok.rows _ ((ok.sub (st := r) (fun u hu => by simp [hu])).mk (fun i _ => by unfold am_xr; rw [if_neg (by omega), if_neg (by omega), if_pos (by omega)]; omega) (fun q => by omega))).cons trivial (fun _ q => q), ?_, ?_⟩, fun lw hle => ⟨lw, ?_, hle⟩⟩
      · rw [(am_rows_1 _ _ _).1]; show h.1 ≤ h.1 + 1 + _; omega
      · rw [(am_rows_1 _ _ _).2]; show h.2.1 ≤ h.2.1 + _ + _; omega
      · unfold o_multi
        simp only
        rw [if_pos ho]
    · cases hF
  · cases hF
theorem pv_acpy {nx : Nat} : am_Pv (o_acpy nx) := by
  intro lv st h pc' lv' st' h' hF
  unfold o_acpy at hF
  split at hF
  · rename_i n dp b sp a r
    split at hF
    · rename_i ho
      cases hF
      refine ⟨fun ok => ⟨⟨fun u hu => ok.1 u (by simp [hu]), ok.2.1, fun x j hj => ?_, ok.2.2.2⟩, Nat.le_refl _, Nat.le_refl _⟩, fun lw hle => ⟨lw, ?_, hle⟩⟩
      · have hj : j < (h.2.2.1 x).2 := hj
        show am_xr (h.2.2.1 x).1 j (if x = b.toNat ∧ dp.toNat ≤ j ∧ j < dp.toNat + n.toNat then h.2.2.2 a.toNat (sp.toNat + (j - dp.toNat)) else h.2.2.2 x j)
        by_cases e : x = b.toNat ∧ dp.toNat ≤ j ∧ j < dp.toNat + n.toNat
        · rw [if_pos e]
          have h1 := ok.2.2.1 a.toNat (sp.toNat + (j - dp.toNat)) (by omega)
          rw [ho.2.1] at h1
          rw [e.1, ho.2.2.2.1]
          exact h1
        · rw [if_neg e]
          exact ok.2.2.1 x j hj
      · unfold o_acpy
        simp only
        rw [if_pos ho]
    · cases hF
  · cases hF
