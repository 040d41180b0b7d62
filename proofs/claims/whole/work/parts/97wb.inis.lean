/-! the start: from the law's first operation to its loop -/
theorem run_sub {p q : Nat → Nat → am_Op} {m : Nat → Nat} (hc : ∀ f pc, p f pc = .inl o_bad ∨ p f pc = q f pc) : ∀ (n d f pc : Nat) (lv : am_Lv) (st : am_St) (h : am_H) (x : Option am_V × am_H), am_run (p, m) n d f pc lv st h = some x → am_run (q, m) n d f pc lv st h = some x := by
  intro n
  induction n with
  | zero => intro d f pc lv st h x hx; simp [am_run] at hx
  | succ n ih =>
    intro d f pc lv st h x hx
    rw [am_run] at hx ⊢
    rcases hc f pc with c | c
    · simp only [c, o_bad] at hx
      cases hx
    · rw [show (q, m).1 f pc = p f pc from c.symm]
      cases hF0 : p f pc with
      | inl F =>
        simp only [hF0] at hx ⊢
        cases hF : F lv st h with
        | none => simp [hF] at hx
        | some z =>
          obtain ⟨pc', lv', st', h'⟩ := z
          simp only [hF] at hx ⊢
          exact ih _ _ _ _ _ _ _ hx
      | inr y =>
        cases y with
        | inl F => simp only [hF0] at hx ⊢; exact hx
        | inr z =>
          obtain ⟨g, F, nx⟩ := z
          simp only [hF0] at hx ⊢
          cases hF : F st h with
          | none => simp [hF] at hx
          | some z =>
            obtain ⟨as, st'⟩ := z
            simp only [hF] at hx ⊢
            cases d with
            | zero => simp at hx
            | succ d' =>
              simp only at hx ⊢
              by_cases hl : (am_sl as).length ≤ m g
              · rw [if_pos hl] at hx ⊢
                cases hr : am_run (p, m) n d' g 0 (am_entry (m g) as) [] h with
                | none => simp [hr] at hx
                | some q2 =>
                  obtain ⟨v, h1⟩ := q2
                  simp only [hr] at hx
                  simp only [ih _ _ _ _ _ _ _ hr]
                  exact ih _ _ _ _ _ _ _ hx
              · rw [if_neg hl] at hx
                cases hx
theorem P0_sub (scr : Nat × (Nat → Int)) (f pc : Nat) : am_P0.1 f pc = .inl o_bad ∨ am_P0.1 f pc = am_cd scr f pc := by
  by_cases c : f = 0
  · left; show (if f = 0 then _ else _) = _; rw [if_pos c]
  · right
    show (if f = 0 then _ else _) = _
    rw [if_neg c]
    have e : am_cd (0, fun _ => 0) f = am_cd scr f := by
      unfold am_cd
      by_cases c1 : f < 1
      · omega
      · rw [if_neg c1, if_neg c1]
    rw [e]
theorem opt_some {x : Option (Option am_V × am_H)} {y : am_H} (h1 : x.isSome = true) (h2 : (x.getD (none, y)).1 = none) : x = some (none, (x.getD (none, y)).2) := by
  cases x with
  | none => simp at h1
  | some z => obtain ⟨a, b⟩ := z; simp only [Option.getD_some] at h2 ⊢; rw [h2]
theorem mk_n {k : am_H} {kd n : Nat} {z : Nat → Int} : (am_mk k kd n z).1 = k.1 + 1 := rfl
theorem mk_k {k : am_H} {kd n c : Nat} {z : Nat → Int} : (am_mk k kd n z).2.2.1 c = if c = k.1 then (kd, n) else k.2.2.1 c := rfl
theorem mk_c {k : am_H} {kd n c j : Nat} {z : Nat → Int} : (am_mk k kd n z).2.2.2 c j = if c = k.1 then z j else k.2.2.2 c j := rfl
section IS
variable {scr : Nat × (Nat → Int)} {d : Nat} {h : am_H} {Q : Option am_V → am_H → Prop}
theorem ini_S : am_run (am_prog scr) 5000 40 131 0 (am_entry (am_ml 131) [.inr (.inr ((0 : Nat) : Int))]) [] ini1 = some (none, iniSh) := run_sub (P0_sub scr) _ _ _ _ _ _ _ _ (opt_some iniS_t.1 iniS_t.2.1)
theorem ini_M : am_run (am_prog scr) 20000 40 2 0 (am_entry (am_ml 2) [.inr (.inr ((109 : Nat) : Int))]) [] ini2 = some (none, iniH0) := run_sub (P0_sub scr) _ _ _ _ _ _ _ _ (opt_some iniM_t.1 iniM_t.2)
theorem am_R.det {P : am_P} {n d f pc : Nat} {lv : am_Lv} {st : am_St} {h h' : am_H} {r : Option am_V} {Q : Option am_V → am_H → Prop} (k : am_R P d f pc lv st h Q) (e : am_run P n d f pc lv st h = some (r, h')) : Q r h' := by
  obtain ⟨m, r2, h2, e2, q⟩ := k
  have a := am_run_le (Nat.le_max_left n m) e
  have b := am_run_le (Nat.le_max_right n m) e2
  rw [a] at b
  simp only [Option.some.injEq, Prod.mk.injEq] at b
  rw [b.1, b.2]; exact q
theorem ini2_k : ini2.1 = 110 ∧ ini2.2.2.1 109 = (22, 40) := by
  have e := iniS_t.2.2
  refine ⟨?_, ?_⟩
  · unfold ini2; rw [mk_n, e]
  · unfold ini2; rw [mk_k, if_pos e.symm]
theorem ini_f (c : Nat) (hc : c < 109) : iniH0.2.2.2 c = iniSh.2.2.2 c := by
  have R : am_R (am_prog (0, fun _ => 0)) 40 2 0 [some (.inr (.inr ((109 : Nat) : Int)))] [] ini2 (fun v g => ∀ c, c < 109 → g.2.2.2 c = ini2.2.2.2 c) := mj_init (d := 39) ini2_k.1 ini2_k.2 (fun g M => M.2.2.2.2)
  have := am_R.det R (ini_M (scr := (0, fun _ => 0))) c hc
  rw [this]
  funext j
  unfold ini2
  rw [mk_c, if_neg (by rw [iniS_t.2.2]; omega)]
theorem law_start (K : am_R (am_prog scr) (d + 41) f_L_law 18 [some (.inr (.inr (-1000))), some (.inr (.inr (((0) : Nat) : Int))), some (.inr (.inr ((109 : Nat) : Int))), some (.inl (0))] [] iniH0 Q) : am_R (am_prog scr) (d + 41) 0 0 [some (.inr (.inr (-1000))), none, none, none] [] am_h0 Q := by
  have hp : ∀ k, (am_prog scr).1 0 k = c_L_law scr k := fun _ => rfl
  refine am_R.next ((hp 0).trans rfl) rfl ?_
  refine am_R.next ((hp 3).trans rfl) rfl ?_
  have i1 : am_isO ini1 ((0 : Nat) : Int) 11 := by decide +kernel
  refine r_cv (a := ((0 : Nat) : Int)) (bs := []) (st' := [.inr (.inr ((0 : Nat) : Int))]) ((hp 4).trans rfl) i1 rfl rfl (Nat.le_of_ble_eq_true rfl) (Nat.le_of_ble_eq_true rfl) ?_
  refine am_R.to (d := 40) (by omega) ⟨5000, none, iniSh, ini_S, ?_⟩
  refine am_R.next (lv' := [some (.inr (.inr (-1000))), some (.inr (.inr (((0) : Nat) : Int))), none, none]) ((hp 7).trans rfl) rfl ?_
  refine am_R.next ((hp 8).trans rfl) rfl ?_
  refine am_R.next ((hp 11).trans rfl) rfl ?_
  have e109 : ((iniSh.1 : Nat) : Int) = ((109 : Nat) : Int) := by rw [iniS_t.2.2]
  change am_R _ _ _ _ _ [.inr (.inr ((iniSh.1 : Nat) : Int)), .inr (.inr ((iniSh.1 : Nat) : Int))] ini2 _
  rw [e109]
  have i2 : am_isO ini2 ((109 : Nat) : Int) 12 := ⟨by omega, by rw [Int.toNat_natCast, ini2_k.2]⟩
  refine r_cv (a := ((109 : Nat) : Int)) (bs := []) (st' := [.inr (.inr ((109 : Nat) : Int))]) ((hp 12).trans rfl) i2 rfl rfl (Nat.le_of_ble_eq_true rfl) (Nat.le_of_ble_eq_true rfl) ?_
  refine am_R.to (d := 40) (by omega) ⟨20000, none, iniH0, ini_M, ?_⟩
  refine am_R.next (lv' := [some (.inr (.inr (-1000))), some (.inr (.inr (((0) : Nat) : Int))), some (.inr (.inr ((109 : Nat) : Int))), none]) ((hp 15).trans rfl) rfl ?_
  refine am_R.next ((hp 16).trans rfl) rfl ?_
  refine am_R.next (lv' := [some (.inr (.inr (-1000))), some (.inr (.inr (((0) : Nat) : Int))), some (.inr (.inr ((109 : Nat) : Int))), some (.inl (0))]) ((hp 17).trans rfl) rfl ?_
  exact K
end IS
