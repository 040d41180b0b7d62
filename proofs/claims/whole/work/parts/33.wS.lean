/-! the system: what the stretches ask for (printed by program) -/
theorem w_S_feed_0 {scr : Nat × (Nat → Int)} {d : Nat} {h : am_H} {Q : Option am_V → am_H → Prop} {x1 x2 x3 x4 x5 : Int} (hs : am_sc scr) (hw : wf h) (H : ((am_w ((h.2.2.2 0 1) + 20)) ≤ 900 → (am_R (am_prog scr) d f_S_putOnTape 0 [some (.inr (.inr ((0 : Nat) : Int))), some (.inl x1), none] [] h (fun v g1 => v = none ∧ wf g1 ∧ (am_R (am_prog scr) d f_S_putOnTape 0 [some (.inr (.inr ((0 : Nat) : Int))), some (.inl x2), none] [] g1 (fun v g2 => v = none ∧ wf g2 ∧ (am_R (am_prog scr) d f_S_putOnTape 0 [some (.inr (.inr ((0 : Nat) : Int))), some (.inl x3), none] [] g2 (fun v g3 => v = none ∧ wf g3 ∧ (am_R (am_prog scr) d f_S_putOnTape 0 [some (.inr (.inr ((0 : Nat) : Int))), some (.inl x4), none] [] g3 (fun v g4 => v = none ∧ wf g4 ∧ (am_R (am_prog scr) d f_S_putOnTape 0 [some (.inr (.inr ((0 : Nat) : Int))), some (.inl x5), none] [] g4 (fun v g5 => v = none ∧ wf g5 ∧ (Q (some (.inl (g5.2.2.2 0 1))) g5)))))))))))) ∧ (¬ ((am_w ((h.2.2.2 0 1) + 20)) ≤ 900) → (Q (some (.inl (-5))) h))) : am_R (am_prog scr) (d + 1) f_S_feed 0 [some (.inr (.inr ((0 : Nat) : Int))), some (.inl x1), some (.inl x2), some (.inl x3), some (.inl x4), some (.inl x5)] [] h Q := by
  have hp : ∀ k, (am_prog scr).1 f_S_feed k = c_S_feed k := fun _ => rfl
  refine am_R.next ((hp 0).trans rfl) rfl ?_
  refine r_getI ((hp 1).trans rfl) (hw.o (i := 0) (by decide) rfl) ?_
  refine am_R.next ((hp 4).trans rfl) rfl ?_
  refine am_R.next ((hp 6).trans rfl) rfl ?_
  refine am_R.next ((hp 7).trans rfl) rfl ?_
  refine r_ic ((hp 10).trans rfl) (fun c6 => ?_) (fun c6 => ?_)
  · have H := H.1 c6
    refine am_R.next ((hp 16).trans rfl) rfl ?_
    refine am_R.next ((hp 17).trans rfl) rfl ?_
    refine r_cv (bs := [.inl x1]) (st' := []) ((hp 18).trans rfl) (hw.o (i := 0) (by decide) rfl) rfl rfl (Nat.le_of_ble_eq_true rfl) (Nat.le_of_ble_eq_true rfl) (am_R.post H (fun v g1 hq => ?_))
    obtain ⟨rfl, hw, H⟩ := hq
    change am_R _ _ _ _ _ [] _ _
    refine am_R.next ((hp 21).trans rfl) rfl ?_
    refine am_R.next ((hp 22).trans rfl) rfl ?_
    refine r_cv (bs := [.inl x2]) (st' := []) ((hp 23).trans rfl) (hw.o (i := 0) (by decide) rfl) rfl rfl (Nat.le_of_ble_eq_true rfl) (Nat.le_of_ble_eq_true rfl) (am_R.post H (fun v g2 hq => ?_))
    obtain ⟨rfl, hw, H⟩ := hq
    change am_R _ _ _ _ _ [] _ _
    refine am_R.next ((hp 26).trans rfl) rfl ?_
    refine am_R.next ((hp 27).trans rfl) rfl ?_
    refine r_cv (bs := [.inl x3]) (st' := []) ((hp 28).trans rfl) (hw.o (i := 0) (by decide) rfl) rfl rfl (Nat.le_of_ble_eq_true rfl) (Nat.le_of_ble_eq_true rfl) (am_R.post H (fun v g3 hq => ?_))
    obtain ⟨rfl, hw, H⟩ := hq
    change am_R _ _ _ _ _ [] _ _
    refine am_R.next ((hp 31).trans rfl) rfl ?_
    refine am_R.next ((hp 32).trans rfl) rfl ?_
    refine r_cv (bs := [.inl x4]) (st' := []) ((hp 34).trans rfl) (hw.o (i := 0) (by decide) rfl) rfl rfl (Nat.le_of_ble_eq_true rfl) (Nat.le_of_ble_eq_true rfl) (am_R.post H (fun v g4 hq => ?_))
    obtain ⟨rfl, hw, H⟩ := hq
    change am_R _ _ _ _ _ [] _ _
    refine am_R.next ((hp 37).trans rfl) rfl ?_
    refine am_R.next ((hp 38).trans rfl) rfl ?_
    refine r_cv (bs := [.inl x5]) (st' := []) ((hp 40).trans rfl) (hw.o (i := 0) (by decide) rfl) rfl rfl (Nat.le_of_ble_eq_true rfl) (Nat.le_of_ble_eq_true rfl) (am_R.post H (fun v g5 hq => ?_))
    obtain ⟨rfl, hw, H⟩ := hq
    change am_R _ _ _ _ _ [] _ _
    refine am_R.next ((hp 43).trans rfl) rfl ?_
    refine r_getI ((hp 44).trans rfl) (hw.o (i := 0) (by decide) rfl) ?_
    exact am_R.ret ((hp 47).trans rfl) rfl H
  · have H := H.2 c6
    refine am_R.next ((hp 13).trans rfl) rfl ?_
    exact am_R.ret ((hp 15).trans rfl) rfl H
theorem w_S_putOnTape_0 {scr : Nat × (Nat → Int)} {d : Nat} {h : am_H} {Q : Option am_V → am_H → Prop} {x1 : Int} (hs : am_sc scr) (hw : wf h) (H : am_R (am_prog scr) d f_S_putOnTape 3 [some (.inr (.inr ((0 : Nat) : Int))), some (.inl x1), some (.inl 24)] [] h Q) : am_R (am_prog scr) d f_S_putOnTape 0 [some (.inr (.inr ((0 : Nat) : Int))), some (.inl x1), none] [] h Q := by
  have hp : ∀ k, (am_prog scr).1 f_S_putOnTape k = c_S_putOnTape k := fun _ => rfl
  refine am_R.next ((hp 0).trans rfl) rfl ?_
  refine am_R.next (lv' := [some (.inr (.inr ((0 : Nat) : Int))), some (.inl x1), some (.inl 24)]) ((hp 2).trans rfl) rfl ?_
  exact H
theorem w_S_putOnTape_3 {scr : Nat × (Nat → Int)} {d : Nat} {h : am_H} {Q : Option am_V → am_H → Prop} {x1 x2 : Int} (hs : am_sc scr) (hw : wf h) (H : (x2 < 0 → (Q none h)) ∧ (¬ (x2 < 0) → ((¬ ((h.2.2.2 0 1) < 900) → (Q none h)) ∧ ((h.2.2.2 0 1) < 900 → (((0 ≤ (h.2.2.2 0 1) ∧ (h.2.2.2 0 1) < 900)) ∧ (∀ h2 : am_H, h2 = am_put h 1 ((h.2.2.2 0 1).toNat) (Int.bmod (Int.bmod (am_shr x1 x2) 256) 256) → (∀ h3 : am_H, h3 = am_put h2 0 1 (am_w ((h2.2.2.2 0 1) + 1)) → (∀ y4 : Int, y4 = am_w (x2 + (-8)) → (am_R (am_prog scr) d f_S_putOnTape 3 [some (.inr (.inr ((0 : Nat) : Int))), some (.inl x1), some (.inl y4)] [] h3 Q))))))))) : am_R (am_prog scr) d f_S_putOnTape 3 [some (.inr (.inr ((0 : Nat) : Int))), some (.inl x1), some (.inl x2)] [] h Q := by
  have hp : ∀ k, (am_prog scr).1 f_S_putOnTape k = c_S_putOnTape k := fun _ => rfl
  refine am_R.next ((hp 3).trans rfl) rfl ?_
  refine r_if ((hp 4).trans rfl) (fun c6 => ?_) (fun c6 => ?_)
  · have H := H.1 c6
    exact am_R.ret ((hp 48).trans rfl) rfl H
  · have H := H.2 c6
    refine am_R.next ((hp 7).trans rfl) rfl ?_
    refine r_getI ((hp 8).trans rfl) (hw.o (i := 0) (by decide) rfl) ?_
    refine am_R.next ((hp 11).trans rfl) rfl ?_
    refine r_getR ((hp 12).trans rfl) (hw.o (i := 0) (by decide) rfl) (hw.r wr_0_0) ?_
    refine r_alen (n := 900) ((hp 15).trans rfl) (hw.l (i := 1) (by decide) rfl (by decide)) (congrArg Prod.snd (hw.k (i := 1) (x := (3, 900)) (by decide) rfl)) ?_
    refine r_ic ((hp 16).trans rfl) (fun c5 => ?_) (fun c5 => ?_)
    · have H := H.1 c5
      exact am_R.ret ((hp 48).trans rfl) rfl H
    · have H := H.2 (Decidable.not_not.mp c5)
      refine am_R.next ((hp 19).trans rfl) rfl ?_
      refine r_getR ((hp 20).trans rfl) (hw.o (i := 0) (by decide) rfl) (hw.r wr_0_0) ?_
      refine am_R.next ((hp 23).trans rfl) rfl ?_
      refine r_getI ((hp 24).trans rfl) (hw.o (i := 0) (by decide) rfl) ?_
      refine am_R.next ((hp 27).trans rfl) rfl ?_
      refine am_R.next ((hp 28).trans rfl) rfl ?_
      refine am_R.next ((hp 29).trans rfl) rfl ?_
      refine am_R.next ((hp 30).trans rfl) rfl ?_
      obtain ⟨c1, H⟩ := H
      obtain ⟨h2, eh2⟩ : ∃ z : am_H, z = am_put h 1 ((h.2.2.2 0 1).toNat) (Int.bmod (Int.bmod (am_shr x1 x2) 256) 256) := ⟨_, rfl⟩
      have H := H h2 eh2
      refine r_bast ((hp 31).trans rfl) (hw.a (i := 1) (by decide) rfl c1.1 c1.2) ?_
      have hw : wf h2 := by rw [eh2]; exact hw.pa na_1
      change am_R _ _ _ _ _ _ (am_put h 1 ((h.2.2.2 0 1).toNat) (Int.bmod (Int.bmod (am_shr x1 x2) 256) 256)) _
      rw [← eh2]
      refine am_R.next ((hp 32).trans rfl) rfl ?_
      refine am_R.next ((hp 33).trans rfl) rfl ?_
      refine r_getI ((hp 34).trans rfl) (hw.o (i := 0) (by decide) rfl) ?_
      refine am_R.next ((hp 37).trans rfl) rfl ?_
      refine am_R.next ((hp 38).trans rfl) rfl ?_
      obtain ⟨h3, eh3⟩ : ∃ z : am_H, z = am_put h2 0 1 (am_w ((h2.2.2.2 0 1) + 1)) := ⟨_, rfl⟩
      have H := H h3 eh3
      refine r_putI ((hp 39).trans rfl) (hw.o (i := 0) (by decide) rfl) ?_
      have hw : wf h3 := by rw [eh3]; exact hw.put np_0_1
      change am_R _ _ _ _ _ _ (am_put h2 0 1 (am_w ((h2.2.2.2 0 1) + 1))) _
      rw [← eh3]
      obtain ⟨y4, ey4⟩ : ∃ z : Int, z = am_w (x2 + (-8)) := ⟨_, rfl⟩
      have H := H y4 ey4
      refine am_R.next (lv' := [some (.inr (.inr ((0 : Nat) : Int))), some (.inl x1), some (.inl y4)]) (st' := []) (h' := h3) (pc' := 45) ((hp 42).trans rfl) (by rw [ey4]; rfl) ?_
      refine am_R.next ((hp 45).trans rfl) rfl ?_
      exact H
theorem w_S_house_0 {scr : Nat × (Nat → Int)} {d : Nat} {h : am_H} {Q : Option am_V → am_H → Prop} {x1 : Int} (hs : am_sc scr) (hw : wf h) (H : (x1 < 0 → (Q (some (.inl (-3))) h)) ∧ (¬ (x1 < 0) → ((x1 ≤ (h.2.2.2 0 1) → (am_R (am_prog scr) d f_Reader_readText 0 [some (.inr (.inr ((2 : Nat) : Int))), some (.inr (.inr ((1 : Nat) : Int))), some (.inl x1), some (.inl (am_w ((h.2.2.2 0 4) + 1))), none] [] h (fun v g1 => ∃ r2 : Int, v = some (.inr (.inr r2)) ∧ wf g1 ∧ (∀ h3 : am_H, h3 = am_put g1 0 1 0 → (am_R (am_prog scr) d f_Reader_faultKind 0 [some (.inr (.inr ((2 : Nat) : Int)))] [] h3 (fun v g4 => ∃ r5 : Int, v = some (.inl r5) ∧ wf g4 ∧ (∀ h6 : am_H, h6 = am_put g4 0 2 r5 → (am_R (am_prog scr) d f_Reader_faultPlace 0 [some (.inr (.inr ((2 : Nat) : Int)))] [] h6 (fun v g7 => ∃ r8 : Int, v = some (.inl r8) ∧ wf g7 ∧ (∀ h9 : am_H, h9 = am_put g7 0 3 r8 → (-1 ≤ r2 ∧ ((¬ r2 = -1 → (∀ h10 : am_H, h10 = am_put h9 0 4 (am_w ((h9.2.2.2 0 4) + 1)) → (am_R (am_prog scr) d f_Play_open 0 [some (.inr (.inr ((24 : Nat) : Int))), some (.inr (.inr r2))] [] h10 (fun v g11 => v = none ∧ wf g11 ∧ (am_R (am_prog scr) d f_Past_forget 0 [some (.inr (.inr ((63 : Nat) : Int)))] [] g11 (fun v g12 => v = none ∧ wf g12 ∧ (am_isO g12 r2 1 ∧ (Q (some (.inl (g12.2.2.2 r2.toNat 11))) g12)))))))) ∧ (r2 = -1 → (Q (some (.inl (am_w ((-30) - (h9.2.2.2 0 2))))) h9)))))))))))))) ∧ (¬ (x1 ≤ (h.2.2.2 0 1)) → (Q (some (.inl (-3))) h))))) : am_R (am_prog scr) (d + 1) f_S_house 0 [some (.inr (.inr ((0 : Nat) : Int))), some (.inl x1), none] [] h Q := by
  have hp : ∀ k, (am_prog scr).1 f_S_house k = c_S_house k := fun _ => rfl
  refine am_R.next ((hp 0).trans rfl) rfl ?_
  refine r_if ((hp 1).trans rfl) (fun c17 => ?_) (fun c17 => ?_)
  · have H := H.1 c17
    refine am_R.next ((hp 12).trans rfl) rfl ?_
    exact am_R.ret ((hp 14).trans rfl) rfl H
  · have H := H.2 c17
    refine am_R.next ((hp 4).trans rfl) rfl ?_
    refine am_R.next ((hp 5).trans rfl) rfl ?_
    refine r_getI ((hp 6).trans rfl) (hw.o (i := 0) (by decide) rfl) ?_
    refine r_ic ((hp 9).trans rfl) (fun c16 => ?_) (fun c16 => ?_)
    · have H := H.1 c16
      refine am_R.next ((hp 15).trans rfl) rfl ?_
      refine r_getR ((hp 16).trans rfl) (hw.o (i := 0) (by decide) rfl) (hw.r wr_0_6) ?_
      refine am_R.next ((hp 19).trans rfl) rfl ?_
      refine r_getR ((hp 20).trans rfl) (hw.o (i := 0) (by decide) rfl) (hw.r wr_0_0) ?_
      refine am_R.next ((hp 23).trans rfl) rfl ?_
      refine am_R.next ((hp 24).trans rfl) rfl ?_
      refine r_getI ((hp 25).trans rfl) (hw.o (i := 0) (by decide) rfl) ?_
      refine am_R.next ((hp 28).trans rfl) rfl ?_
      refine am_R.next ((hp 29).trans rfl) rfl ?_
      refine r_cv (bs := [.inr (.inr ((1 : Nat) : Int)), .inl x1, .inl (am_w ((h.2.2.2 0 4) + 1))]) (st' := []) ((hp 30).trans rfl) (hw.o (i := 2) (by decide) rfl) rfl rfl (Nat.le_of_ble_eq_true rfl) (Nat.le_of_ble_eq_true rfl) (am_R.post H (fun v g1 hq => ?_))
      obtain ⟨r2, rfl, hw, H⟩ := hq
      change am_R _ _ _ _ _ [.inr (.inr r2)] _ _
      refine am_R.next (lv' := [some (.inr (.inr ((0 : Nat) : Int))), some (.inl x1), some (.inr (.inr r2))]) ((hp 33).trans rfl) rfl ?_
      refine am_R.next ((hp 34).trans rfl) rfl ?_
      refine am_R.next ((hp 35).trans rfl) rfl ?_
      obtain ⟨h3, eh3⟩ : ∃ z : am_H, z = am_put g1 0 1 0 := ⟨_, rfl⟩
      have H := H h3 eh3
      refine r_putI ((hp 36).trans rfl) (hw.o (i := 0) (by decide) rfl) ?_
      have hw : wf h3 := by rw [eh3]; exact hw.put np_0_1
      change am_R _ _ _ _ _ _ (am_put g1 0 1 0) _
      rw [← eh3]
      refine am_R.next ((hp 39).trans rfl) rfl ?_
      refine am_R.next ((hp 40).trans rfl) rfl ?_
      refine r_getR ((hp 41).trans rfl) (hw.o (i := 0) (by decide) rfl) (hw.r wr_0_6) ?_
      refine r_cv (bs := []) (st' := [.inr (.inr ((0 : Nat) : Int))]) ((hp 44).trans rfl) (hw.o (i := 2) (by decide) rfl) rfl rfl (Nat.le_of_ble_eq_true rfl) (Nat.le_of_ble_eq_true rfl) (am_R.post H (fun v g4 hq => ?_))
      obtain ⟨r5, rfl, hw, H⟩ := hq
      change am_R _ _ _ _ _ [.inl r5, .inr (.inr ((0 : Nat) : Int))] _ _
      obtain ⟨h6, eh6⟩ : ∃ z : am_H, z = am_put g4 0 2 r5 := ⟨_, rfl⟩
      have H := H h6 eh6
      refine r_putI ((hp 47).trans rfl) (hw.o (i := 0) (by decide) rfl) ?_
      have hw : wf h6 := by rw [eh6]; exact hw.put np_0_2
      change am_R _ _ _ _ _ _ (am_put g4 0 2 r5) _
      rw [← eh6]
      refine am_R.next ((hp 50).trans rfl) rfl ?_
      refine am_R.next ((hp 51).trans rfl) rfl ?_
      refine r_getR ((hp 52).trans rfl) (hw.o (i := 0) (by decide) rfl) (hw.r wr_0_6) ?_
      refine r_cv (bs := []) (st' := [.inr (.inr ((0 : Nat) : Int))]) ((hp 55).trans rfl) (hw.o (i := 2) (by decide) rfl) rfl rfl (Nat.le_of_ble_eq_true rfl) (Nat.le_of_ble_eq_true rfl) (am_R.post H (fun v g7 hq => ?_))
      obtain ⟨r8, rfl, hw, H⟩ := hq
      change am_R _ _ _ _ _ [.inl r8, .inr (.inr ((0 : Nat) : Int))] _ _
      obtain ⟨h9, eh9⟩ : ∃ z : am_H, z = am_put g7 0 3 r8 := ⟨_, rfl⟩
      have H := H h9 eh9
      refine r_putI ((hp 58).trans rfl) (hw.o (i := 0) (by decide) rfl) ?_
      have hw : wf h9 := by rw [eh9]; exact hw.put np_0_3
      change am_R _ _ _ _ _ _ (am_put g7 0 3 r8) _
      rw [← eh9]
      refine am_R.next ((hp 61).trans rfl) rfl ?_
      obtain ⟨c15, H⟩ := H
      refine r_ifnn ((hp 62).trans rfl) c15 (fun c14 => ?_) (fun c14 => ?_)
      · have H := H.1 c14
        refine am_R.next ((hp 73).trans rfl) rfl ?_
        refine am_R.next ((hp 74).trans rfl) rfl ?_
        refine r_getI ((hp 75).trans rfl) (hw.o (i := 0) (by decide) rfl) ?_
        refine am_R.next ((hp 78).trans rfl) rfl ?_
        refine am_R.next ((hp 79).trans rfl) rfl ?_
        obtain ⟨h10, eh10⟩ : ∃ z : am_H, z = am_put h9 0 4 (am_w ((h9.2.2.2 0 4) + 1)) := ⟨_, rfl⟩
        have H := H h10 eh10
        refine r_putI ((hp 80).trans rfl) (hw.o (i := 0) (by decide) rfl) ?_
        have hw : wf h10 := by rw [eh10]; exact hw.put np_0_4
        change am_R _ _ _ _ _ _ (am_put h9 0 4 (am_w ((h9.2.2.2 0 4) + 1))) _
        rw [← eh10]
        refine am_R.next ((hp 83).trans rfl) rfl ?_
        refine r_getR ((hp 84).trans rfl) (hw.o (i := 0) (by decide) rfl) (hw.r wr_0_12) ?_
        refine am_R.next ((hp 87).trans rfl) rfl ?_
        refine r_cv (bs := [.inr (.inr r2)]) (st' := []) ((hp 88).trans rfl) (hw.o (i := 24) (by decide) rfl) rfl rfl (Nat.le_of_ble_eq_true rfl) (Nat.le_of_ble_eq_true rfl) (am_R.post H (fun v g11 hq => ?_))
        obtain ⟨rfl, hw, H⟩ := hq
        change am_R _ _ _ _ _ [] _ _
        refine am_R.next ((hp 91).trans rfl) rfl ?_
        refine r_getR ((hp 92).trans rfl) (hw.o (i := 0) (by decide) rfl) (hw.r wr_0_14) ?_
        refine r_cv (bs := []) (st' := []) ((hp 95).trans rfl) (hw.o (i := 63) (by decide) rfl) rfl rfl (Nat.le_of_ble_eq_true rfl) (Nat.le_of_ble_eq_true rfl) (am_R.post H (fun v g12 hq => ?_))
        obtain ⟨rfl, hw, H⟩ := hq
        change am_R _ _ _ _ _ [] _ _
        refine am_R.next ((hp 98).trans rfl) rfl ?_
        obtain ⟨c13, H⟩ := H
        refine r_getI ((hp 99).trans rfl) c13 ?_
        exact am_R.ret ((hp 102).trans rfl) rfl H
      · have H := H.2 c14
        refine am_R.next ((hp 65).trans rfl) rfl ?_
        refine am_R.next ((hp 67).trans rfl) rfl ?_
        refine r_getI ((hp 68).trans rfl) (hw.o (i := 0) (by decide) rfl) ?_
        refine am_R.next ((hp 71).trans rfl) rfl ?_
        exact am_R.ret ((hp 72).trans rfl) rfl H
    · have H := H.2 c16
      refine am_R.next ((hp 12).trans rfl) rfl ?_
      exact am_R.ret ((hp 14).trans rfl) rfl H
theorem w_S_fault_0 {scr : Nat × (Nat → Int)} {d : Nat} {h : am_H} {Q : Option am_V → am_H → Prop} {x1 : Int} (hs : am_sc scr) (hw : wf h) (H : (¬ (x1 = 0) → ((¬ (x1 = 1) → (Q (some (.inl (-1))) h)) ∧ (x1 = 1 → (Q (some (.inl (h.2.2.2 0 3))) h)))) ∧ (x1 = 0 → (Q (some (.inl (h.2.2.2 0 2))) h))) : am_R (am_prog scr) d f_S_fault 0 [some (.inr (.inr ((0 : Nat) : Int))), some (.inl x1)] [] h Q := by
  have hp : ∀ k, (am_prog scr).1 f_S_fault k = c_S_fault k := fun _ => rfl
  refine am_R.next ((hp 0).trans rfl) rfl ?_
  refine r_if ((hp 1).trans rfl) (fun c2 => ?_) (fun c2 => ?_)
  · have H := H.1 c2
    refine am_R.next ((hp 9).trans rfl) rfl ?_
    refine am_R.next ((hp 10).trans rfl) rfl ?_
    refine r_ic ((hp 11).trans rfl) (fun c1 => ?_) (fun c1 => ?_)
    · have H := H.1 c1
      refine am_R.next ((hp 21).trans rfl) rfl ?_
      exact am_R.ret ((hp 22).trans rfl) rfl H
    · have H := H.2 (Decidable.not_not.mp c1)
      refine am_R.next ((hp 14).trans rfl) rfl ?_
      refine r_getI ((hp 15).trans rfl) (hw.o (i := 0) (by decide) rfl) ?_
      refine am_R.next ((hp 18).trans rfl) rfl ?_
      exact am_R.ret ((hp 22).trans rfl) rfl H
  · have H := H.2 (Decidable.not_not.mp c2)
    refine am_R.next ((hp 4).trans rfl) rfl ?_
    refine r_getI ((hp 5).trans rfl) (hw.o (i := 0) (by decide) rfl) ?_
    exact am_R.ret ((hp 8).trans rfl) rfl H
theorem w_S_sleeper_0 {scr : Nat × (Nat → Int)} {d : Nat} {h : am_H} {Q : Option am_V → am_H → Prop} {x1 x2 : Int} (hs : am_sc scr) (hw : wf h) (H : am_R (am_prog scr) d f_Play_has 0 [some (.inr (.inr ((24 : Nat) : Int))), some (.inl x1)] [] h (fun v g1 => ∃ r2 : Int, v = some (.inl r2) ∧ wf g1 ∧ ((r2 = 0 → (Q (some (.inl (-2))) g1)) ∧ (¬ (r2 = 0) → ((x2 < 0 → (Q (some (.inl (-2))) g1)) ∧ (¬ (x2 < 0) → ((x2 ≤ 1 → ((¬ (x2 = 0) → ((0 ≤ x1 ∧ x1 < 6) ∧ (Q (some (.inl (g1.2.2.2 26 x1.toNat))) g1))) ∧ (x2 = 0 → ((0 ≤ x1 ∧ x1 < 6) ∧ (Q (some (.inl (g1.2.2.2 25 x1.toNat))) g1))))) ∧ (¬ (x2 ≤ 1) → (Q (some (.inl (-2))) g1))))))))) : am_R (am_prog scr) (d + 1) f_S_sleeper 0 [some (.inr (.inr ((0 : Nat) : Int))), some (.inl x1), some (.inl x2)] [] h Q := by
  have hp : ∀ k, (am_prog scr).1 f_S_sleeper k = c_S_sleeper k := fun _ => rfl
  refine am_R.next ((hp 0).trans rfl) rfl ?_
  refine r_getR ((hp 1).trans rfl) (hw.o (i := 0) (by decide) rfl) (hw.r wr_0_12) ?_
  refine am_R.next ((hp 4).trans rfl) rfl ?_
  refine r_cv (bs := [.inl x1]) (st' := []) ((hp 5).trans rfl) (hw.o (i := 24) (by decide) rfl) rfl rfl (Nat.le_of_ble_eq_true rfl) (Nat.le_of_ble_eq_true rfl) (am_R.post H (fun v g1 hq => ?_))
  obtain ⟨r2, rfl, hw, H⟩ := hq
  change am_R _ _ _ _ _ [.inl r2] _ _
  refine r_if ((hp 8).trans rfl) (fun c8 => ?_) (fun c8 => ?_)
  · have H := H.1 c8
    refine am_R.next ((hp 20).trans rfl) rfl ?_
    exact am_R.ret ((hp 22).trans rfl) rfl H
  · have H := H.2 c8
    refine am_R.next ((hp 11).trans rfl) rfl ?_
    refine r_if ((hp 12).trans rfl) (fun c7 => ?_) (fun c7 => ?_)
    · have H := H.1 c7
      refine am_R.next ((hp 20).trans rfl) rfl ?_
      exact am_R.ret ((hp 22).trans rfl) rfl H
    · have H := H.2 c7
      refine am_R.next ((hp 15).trans rfl) rfl ?_
      refine am_R.next ((hp 16).trans rfl) rfl ?_
      refine r_ic ((hp 17).trans rfl) (fun c6 => ?_) (fun c6 => ?_)
      · have H := H.1 c6
        refine am_R.next ((hp 23).trans rfl) rfl ?_
        refine r_if ((hp 24).trans rfl) (fun c5 => ?_) (fun c5 => ?_)
        · have H := H.1 c5
          refine am_R.next ((hp 39).trans rfl) rfl ?_
          refine r_getR ((hp 40).trans rfl) (hw.o (i := 0) (by decide) rfl) (hw.r wr_0_12) ?_
          refine r_getR ((hp 43).trans rfl) (hw.o (i := 24) (by decide) rfl) (hw.r wr_24_2) ?_
          refine am_R.next ((hp 46).trans rfl) rfl ?_
          obtain ⟨c3, H⟩ := H
          refine r_iald ((hp 47).trans rfl) (hw.a (i := 26) (by decide) rfl c3.1 c3.2) ?_
          exact am_R.ret ((hp 48).trans rfl) rfl H
        · have H := H.2 (Decidable.not_not.mp c5)
          refine am_R.next ((hp 27).trans rfl) rfl ?_
          refine r_getR ((hp 28).trans rfl) (hw.o (i := 0) (by decide) rfl) (hw.r wr_0_12) ?_
          refine r_getR ((hp 31).trans rfl) (hw.o (i := 24) (by decide) rfl) (hw.r wr_24_1) ?_
          refine am_R.next ((hp 34).trans rfl) rfl ?_
          obtain ⟨c4, H⟩ := H
          refine r_iald ((hp 35).trans rfl) (hw.a (i := 25) (by decide) rfl c4.1 c4.2) ?_
          refine am_R.next ((hp 36).trans rfl) rfl ?_
          exact am_R.ret ((hp 48).trans rfl) rfl H
      · have H := H.2 c6
        refine am_R.next ((hp 20).trans rfl) rfl ?_
        exact am_R.ret ((hp 22).trans rfl) rfl H
theorem w_S_would_0 {scr : Nat × (Nat → Int)} {d : Nat} {h : am_H} {Q : Option am_V → am_H → Prop} {x1 : Int} (hs : am_sc scr) (hw : wf h) (H : am_R (am_prog scr) d f_Play_has 0 [some (.inr (.inr ((24 : Nat) : Int))), some (.inl x1)] [] h (fun v g1 => ∃ r2 : Int, v = some (.inl r2) ∧ wf g1 ∧ ((r2 = 0 → (Q (some (.inl (-99000002))) g1)) ∧ (¬ (r2 = 0) → (am_R (am_prog scr) d f_Stage_amount 0 [some (.inr (.inr ((9 : Nat) : Int))), some (.inr (.inr ((24 : Nat) : Int))), some (.inl x1), none, none, none] [] g1 (fun v g3 => ∃ r4 : Int, v = some (.inl r4) ∧ wf g3 ∧ (Q (some (.inl r4)) g3))))))) : am_R (am_prog scr) (d + 1) f_S_would 0 [some (.inr (.inr ((0 : Nat) : Int))), some (.inl x1)] [] h Q := by
  have hp : ∀ k, (am_prog scr).1 f_S_would k = c_S_would k := fun _ => rfl
  refine am_R.next ((hp 0).trans rfl) rfl ?_
  refine r_getR ((hp 1).trans rfl) (hw.o (i := 0) (by decide) rfl) (hw.r wr_0_12) ?_
  refine am_R.next ((hp 4).trans rfl) rfl ?_
  refine r_cv (bs := [.inl x1]) (st' := []) ((hp 5).trans rfl) (hw.o (i := 24) (by decide) rfl) rfl rfl (Nat.le_of_ble_eq_true rfl) (Nat.le_of_ble_eq_true rfl) (am_R.post H (fun v g1 hq => ?_))
  obtain ⟨r2, rfl, hw, H⟩ := hq
  change am_R _ _ _ _ _ [.inl r2] _ _
  refine r_if ((hp 8).trans rfl) (fun c5 => ?_) (fun c5 => ?_)
  · have H := H.1 c5
    refine am_R.next ((hp 26).trans rfl) rfl ?_
    exact am_R.ret ((hp 28).trans rfl) rfl H
  · have H := H.2 c5
    refine am_R.next ((hp 11).trans rfl) rfl ?_
    refine r_getR ((hp 12).trans rfl) (hw.o (i := 0) (by decide) rfl) (hw.r wr_0_7) ?_
    refine am_R.next ((hp 15).trans rfl) rfl ?_
    refine r_getR ((hp 16).trans rfl) (hw.o (i := 0) (by decide) rfl) (hw.r wr_0_12) ?_
    refine am_R.next ((hp 19).trans rfl) rfl ?_
    refine r_cv (bs := [.inr (.inr ((24 : Nat) : Int)), .inl x1]) (st' := []) ((hp 20).trans rfl) (hw.o (i := 9) (by decide) rfl) rfl rfl (Nat.le_of_ble_eq_true rfl) (Nat.le_of_ble_eq_true rfl) (am_R.post H (fun v g3 hq => ?_))
    obtain ⟨r4, rfl, hw, H⟩ := hq
    change am_R _ _ _ _ _ [.inl r4] _ _
    refine am_R.next ((hp 23).trans rfl) rfl ?_
    exact am_R.ret ((hp 28).trans rfl) rfl H
theorem w_S_by_0 {scr : Nat × (Nat → Int)} {d : Nat} {h : am_H} {Q : Option am_V → am_H → Prop} {x1 x2 : Int} (hs : am_sc scr) (hw : wf h) (H : (x2 < 0 → (Q (some (.inl (-2))) h)) ∧ (¬ (x2 < 0) → ((x2 ≤ 2 → (am_R (am_prog scr) d f_Stage_isBeat 0 [some (.inr (.inl x1)), none] [] h (fun v g1 => ∃ r2 : Int, v = some (.inl r2) ∧ wf g1 ∧ ((r2 = 0 → (Q (some (.inl (-5))) g1)) ∧ (¬ (r2 = 0) → (am_R (am_prog scr) d f_Stage_whyNot 0 [some (.inr (.inr ((9 : Nat) : Int))), some (.inr (.inr ((24 : Nat) : Int))), some (.inr (.inl x1)), none, none, none] [] g1 (fun v g3 => ∃ r4 : Int, v = some (.inl r4) ∧ wf g3 ∧ ((r4 = 0 → (am_R (am_prog scr) d f_Play_takeFrom 0 [some (.inr (.inr ((27 : Nat) : Int))), some (.inr (.inr ((24 : Nat) : Int)))] [] g3 (fun v g5 => v = none ∧ wf g5 ∧ (am_R (am_prog scr) d f_Stage_step 0 [some (.inr (.inr ((9 : Nat) : Int))), some (.inr (.inr ((27 : Nat) : Int))), some (.inl (am_w (x1 - 1))), none, none, none, none] [] g5 (fun v g6 => ∃ r7 : Int, v = some (.inl r7) ∧ wf g6 ∧ ((¬ (x2 = 0) → ((¬ (x2 = 1) → (Q (some (.inl (g6.2.2.2 27 6))) g6)) ∧ (x2 = 1 → (Q (some (.inl (g6.2.2.2 27 5))) g6)))) ∧ (x2 = 0 → (Q (some (.inl r7)) g6)))))))) ∧ (¬ (r4 = 0) → (Q (some (.inl (-5))) g3)))))))))) ∧ (¬ (x2 ≤ 2) → (Q (some (.inl (-2))) h))))) : am_R (am_prog scr) (d + 1) f_S_by 0 [some (.inr (.inr ((0 : Nat) : Int))), some (.inl x1), some (.inl x2), none] [] h Q := by
  have hp : ∀ k, (am_prog scr).1 f_S_by k = c_S_by k := fun _ => rfl
  refine am_R.next ((hp 0).trans rfl) rfl ?_
  refine r_if ((hp 1).trans rfl) (fun c13 => ?_) (fun c13 => ?_)
  · have H := H.1 c13
    refine am_R.next ((hp 9).trans rfl) rfl ?_
    exact am_R.ret ((hp 11).trans rfl) rfl H
  · have H := H.2 c13
    refine am_R.next ((hp 4).trans rfl) rfl ?_
    refine am_R.next ((hp 5).trans rfl) rfl ?_
    refine r_ic ((hp 6).trans rfl) (fun c12 => ?_) (fun c12 => ?_)
    · have H := H.1 c12
      refine am_R.next ((hp 12).trans rfl) rfl ?_
      refine am_R.next ((hp 13).trans rfl) rfl ?_
      refine r_cs (as := [.inr (.inl x1)]) (st' := []) ((hp 14).trans rfl) rfl rfl (Nat.le_of_ble_eq_true rfl) (Nat.le_of_ble_eq_true rfl) (am_R.post H (fun v g1 hq => ?_))
      obtain ⟨r2, rfl, hw, H⟩ := hq
      change am_R _ _ _ _ _ [.inl r2] _ _
      refine r_if ((hp 17).trans rfl) (fun c11 => ?_) (fun c11 => ?_)
      · have H := H.1 c11
        refine am_R.next ((hp 36).trans rfl) rfl ?_
        exact am_R.ret ((hp 38).trans rfl) rfl H
      · have H := H.2 c11
        refine am_R.next ((hp 20).trans rfl) rfl ?_
        refine r_getR ((hp 21).trans rfl) (hw.o (i := 0) (by decide) rfl) (hw.r wr_0_7) ?_
        refine am_R.next ((hp 24).trans rfl) rfl ?_
        refine r_getR ((hp 25).trans rfl) (hw.o (i := 0) (by decide) rfl) (hw.r wr_0_12) ?_
        refine am_R.next ((hp 28).trans rfl) rfl ?_
        refine am_R.next ((hp 29).trans rfl) rfl ?_
        refine r_cv (bs := [.inr (.inr ((24 : Nat) : Int)), .inr (.inl x1)]) (st' := []) ((hp 30).trans rfl) (hw.o (i := 9) (by decide) rfl) rfl rfl (Nat.le_of_ble_eq_true rfl) (Nat.le_of_ble_eq_true rfl) (am_R.post H (fun v g3 hq => ?_))
        obtain ⟨r4, rfl, hw, H⟩ := hq
        change am_R _ _ _ _ _ [.inl r4] _ _
        refine r_if ((hp 33).trans rfl) (fun c10 => ?_) (fun c10 => ?_)
        · have H := H.1 c10
          refine am_R.next ((hp 39).trans rfl) rfl ?_
          refine r_getR ((hp 40).trans rfl) (hw.o (i := 0) (by decide) rfl) (hw.r wr_0_13) ?_
          refine am_R.next ((hp 43).trans rfl) rfl ?_
          refine r_getR ((hp 44).trans rfl) (hw.o (i := 0) (by decide) rfl) (hw.r wr_0_12) ?_
          refine r_cv (bs := [.inr (.inr ((24 : Nat) : Int))]) (st' := []) ((hp 47).trans rfl) (hw.o (i := 27) (by decide) rfl) rfl rfl (Nat.le_of_ble_eq_true rfl) (Nat.le_of_ble_eq_true rfl) (am_R.post H (fun v g5 hq => ?_))
          obtain ⟨rfl, hw, H⟩ := hq
          change am_R _ _ _ _ _ [] _ _
          refine am_R.next ((hp 50).trans rfl) rfl ?_
          refine r_getR ((hp 51).trans rfl) (hw.o (i := 0) (by decide) rfl) (hw.r wr_0_7) ?_
          refine am_R.next ((hp 54).trans rfl) rfl ?_
          refine r_getR ((hp 55).trans rfl) (hw.o (i := 0) (by decide) rfl) (hw.r wr_0_13) ?_
          refine am_R.next ((hp 58).trans rfl) rfl ?_
          refine am_R.next ((hp 59).trans rfl) rfl ?_
          refine am_R.next ((hp 60).trans rfl) rfl ?_
          refine r_cv (bs := [.inr (.inr ((27 : Nat) : Int)), .inl (am_w (x1 - 1))]) (st' := []) ((hp 61).trans rfl) (hw.o (i := 9) (by decide) rfl) rfl rfl (Nat.le_of_ble_eq_true rfl) (Nat.le_of_ble_eq_true rfl) (am_R.post H (fun v g6 hq => ?_))
          obtain ⟨r7, rfl, hw, H⟩ := hq
          change am_R _ _ _ _ _ [.inl r7] _ _
          refine am_R.next (lv' := [some (.inr (.inr ((0 : Nat) : Int))), some (.inl x1), some (.inl x2), some (.inl r7)]) ((hp 64).trans rfl) rfl ?_
          refine am_R.next ((hp 65).trans rfl) rfl ?_
          refine r_if ((hp 66).trans rfl) (fun c9 => ?_) (fun c9 => ?_)
          · have H := H.1 c9
            refine am_R.next ((hp 71).trans rfl) rfl ?_
            refine am_R.next ((hp 72).trans rfl) rfl ?_
            refine r_ic ((hp 73).trans rfl) (fun c8 => ?_) (fun c8 => ?_)
            · have H := H.1 c8
              refine am_R.next ((hp 86).trans rfl) rfl ?_
              refine r_getR ((hp 87).trans rfl) (hw.o (i := 0) (by decide) rfl) (hw.r wr_0_13) ?_
              refine r_getI ((hp 90).trans rfl) (hw.o (i := 27) (by decide) rfl) ?_
              exact am_R.ret ((hp 93).trans rfl) rfl H
            · have H := H.2 (Decidable.not_not.mp c8)
              refine am_R.next ((hp 76).trans rfl) rfl ?_
              refine r_getR ((hp 77).trans rfl) (hw.o (i := 0) (by decide) rfl) (hw.r wr_0_13) ?_
              refine r_getI ((hp 80).trans rfl) (hw.o (i := 27) (by decide) rfl) ?_
              refine am_R.next ((hp 83).trans rfl) rfl ?_
              exact am_R.ret ((hp 93).trans rfl) rfl H
          · have H := H.2 (Decidable.not_not.mp c9)
            refine am_R.next ((hp 69).trans rfl) rfl ?_
            exact am_R.ret ((hp 70).trans rfl) rfl H
        · have H := H.2 c10
          refine am_R.next ((hp 36).trans rfl) rfl ?_
          exact am_R.ret ((hp 38).trans rfl) rfl H
    · have H := H.2 c12
      refine am_R.next ((hp 9).trans rfl) rfl ?_
      exact am_R.ret ((hp 11).trans rfl) rfl H
theorem w_S_beat_0 {scr : Nat × (Nat → Int)} {d : Nat} {h : am_H} {Q : Option am_V → am_H → Prop} {x1 : Int} (hs : am_sc scr) (hw : wf h) (H : am_R (am_prog scr) d f_Stage_isBeat 0 [some (.inr (.inl x1)), none] [] h (fun v g1 => ∃ r2 : Int, v = some (.inl r2) ∧ wf g1 ∧ ((r2 = 0 → (((1 : Int) = 0 → (am_R (am_prog scr) d f_Past_keep 0 [some (.inr (.inr ((63 : Nat) : Int))), some (.inr (.inr ((24 : Nat) : Int)))] [] g1 (fun v g3 => v = none ∧ wf g3 ∧ (am_R (am_prog scr) d f_Stage_step 0 [some (.inr (.inr ((9 : Nat) : Int))), some (.inr (.inr ((24 : Nat) : Int))), some (.inl (am_w (x1 - 1))), none, none, none, none] [] g3 (fun v g4 => ∃ r5 : Int, v = some (.inl r5) ∧ wf g4 ∧ (Q (some (.inl r5)) g4)))))) ∧ (¬ ((1 : Int) = 0) → (Q (some (.inl (am_w ((-10) - 1)))) g1)))) ∧ (¬ (r2 = 0) → (am_R (am_prog scr) d f_Stage_whyNot 0 [some (.inr (.inr ((9 : Nat) : Int))), some (.inr (.inr ((24 : Nat) : Int))), some (.inr (.inl x1)), none, none, none] [] g1 (fun v g7 => ∃ r8 : Int, v = some (.inl r8) ∧ wf g7 ∧ ((r8 = 0 → (am_R (am_prog scr) d f_Past_keep 0 [some (.inr (.inr ((63 : Nat) : Int))), some (.inr (.inr ((24 : Nat) : Int)))] [] g7 (fun v g9 => v = none ∧ wf g9 ∧ (am_R (am_prog scr) d f_Stage_step 0 [some (.inr (.inr ((9 : Nat) : Int))), some (.inr (.inr ((24 : Nat) : Int))), some (.inl (am_w (x1 - 1))), none, none, none, none] [] g9 (fun v g10 => ∃ r11 : Int, v = some (.inl r11) ∧ wf g10 ∧ (Q (some (.inl r11)) g10)))))) ∧ (¬ (r8 = 0) → (Q (some (.inl (am_w ((-10) - r8)))) g7))))))))) : am_R (am_prog scr) (d + 1) f_S_beat 0 [some (.inr (.inr ((0 : Nat) : Int))), some (.inl x1), none] [] h Q := by
  have hp : ∀ k, (am_prog scr).1 f_S_beat k = c_S_beat k := fun _ => rfl
  refine am_R.next ((hp 0).trans rfl) rfl ?_
  refine am_R.next ((hp 1).trans rfl) rfl ?_
  refine r_cs (as := [.inr (.inl x1)]) (st' := []) ((hp 2).trans rfl) rfl rfl (Nat.le_of_ble_eq_true rfl) (Nat.le_of_ble_eq_true rfl) (am_R.post H (fun v g1 hq => ?_))
  obtain ⟨r2, rfl, hw, H⟩ := hq
  change am_R _ _ _ _ _ [.inl r2] _ _
  refine r_if ((hp 5).trans rfl) (fun c13 => ?_) (fun c13 => ?_)
  · have H := H.1 c13
    refine am_R.next ((hp 24).trans rfl) rfl ?_
    refine am_R.next (lv' := [some (.inr (.inr ((0 : Nat) : Int))), some (.inl x1), some (.inl 1)]) ((hp 25).trans rfl) rfl ?_
    refine am_R.next ((hp 26).trans rfl) rfl ?_
    refine r_if ((hp 27).trans rfl) (fun c6 => ?_) (fun c6 => ?_)
    · have H := H.1 c6
      refine am_R.next ((hp 35).trans rfl) rfl ?_
      refine r_getR ((hp 36).trans rfl) (hw.o (i := 0) (by decide) rfl) (hw.r wr_0_14) ?_
      refine am_R.next ((hp 39).trans rfl) rfl ?_
      refine r_getR ((hp 40).trans rfl) (hw.o (i := 0) (by decide) rfl) (hw.r wr_0_12) ?_
      refine r_cv (bs := [.inr (.inr ((24 : Nat) : Int))]) (st' := []) ((hp 43).trans rfl) (hw.o (i := 63) (by decide) rfl) rfl rfl (Nat.le_of_ble_eq_true rfl) (Nat.le_of_ble_eq_true rfl) (am_R.post H (fun v g3 hq => ?_))
      obtain ⟨rfl, hw, H⟩ := hq
      change am_R _ _ _ _ _ [] _ _
      refine am_R.next ((hp 46).trans rfl) rfl ?_
      refine r_getR ((hp 47).trans rfl) (hw.o (i := 0) (by decide) rfl) (hw.r wr_0_7) ?_
      refine am_R.next ((hp 50).trans rfl) rfl ?_
      refine r_getR ((hp 51).trans rfl) (hw.o (i := 0) (by decide) rfl) (hw.r wr_0_12) ?_
      refine am_R.next ((hp 54).trans rfl) rfl ?_
      refine am_R.next ((hp 55).trans rfl) rfl ?_
      refine am_R.next ((hp 56).trans rfl) rfl ?_
      refine r_cv (bs := [.inr (.inr ((24 : Nat) : Int)), .inl (am_w (x1 - 1))]) (st' := []) ((hp 57).trans rfl) (hw.o (i := 9) (by decide) rfl) rfl rfl (Nat.le_of_ble_eq_true rfl) (Nat.le_of_ble_eq_true rfl) (am_R.post H (fun v g4 hq => ?_))
      obtain ⟨r5, rfl, hw, H⟩ := hq
      change am_R _ _ _ _ _ [.inl r5] _ _
      exact am_R.ret ((hp 60).trans rfl) rfl H
    · have H := H.2 c6
      refine am_R.next ((hp 30).trans rfl) rfl ?_
      refine am_R.next ((hp 32).trans rfl) rfl ?_
      refine am_R.next ((hp 33).trans rfl) rfl ?_
      exact am_R.ret ((hp 34).trans rfl) rfl H
  · have H := H.2 c13
    refine am_R.next ((hp 8).trans rfl) rfl ?_
    refine r_getR ((hp 9).trans rfl) (hw.o (i := 0) (by decide) rfl) (hw.r wr_0_7) ?_
    refine am_R.next ((hp 12).trans rfl) rfl ?_
    refine r_getR ((hp 13).trans rfl) (hw.o (i := 0) (by decide) rfl) (hw.r wr_0_12) ?_
    refine am_R.next ((hp 16).trans rfl) rfl ?_
    refine am_R.next ((hp 17).trans rfl) rfl ?_
    refine r_cv (bs := [.inr (.inr ((24 : Nat) : Int)), .inr (.inl x1)]) (st' := []) ((hp 18).trans rfl) (hw.o (i := 9) (by decide) rfl) rfl rfl (Nat.le_of_ble_eq_true rfl) (Nat.le_of_ble_eq_true rfl) (am_R.post H (fun v g7 hq => ?_))
    obtain ⟨r8, rfl, hw, H⟩ := hq
    change am_R _ _ _ _ _ [.inl r8] _ _
    refine am_R.next ((hp 21).trans rfl) rfl ?_
    refine am_R.next (lv' := [some (.inr (.inr ((0 : Nat) : Int))), some (.inl x1), some (.inl r8)]) ((hp 25).trans rfl) rfl ?_
    refine am_R.next ((hp 26).trans rfl) rfl ?_
    refine r_if ((hp 27).trans rfl) (fun c12 => ?_) (fun c12 => ?_)
    · have H := H.1 c12
      refine am_R.next ((hp 35).trans rfl) rfl ?_
      refine r_getR ((hp 36).trans rfl) (hw.o (i := 0) (by decide) rfl) (hw.r wr_0_14) ?_
      refine am_R.next ((hp 39).trans rfl) rfl ?_
      refine r_getR ((hp 40).trans rfl) (hw.o (i := 0) (by decide) rfl) (hw.r wr_0_12) ?_
      refine r_cv (bs := [.inr (.inr ((24 : Nat) : Int))]) (st' := []) ((hp 43).trans rfl) (hw.o (i := 63) (by decide) rfl) rfl rfl (Nat.le_of_ble_eq_true rfl) (Nat.le_of_ble_eq_true rfl) (am_R.post H (fun v g9 hq => ?_))
      obtain ⟨rfl, hw, H⟩ := hq
      change am_R _ _ _ _ _ [] _ _
      refine am_R.next ((hp 46).trans rfl) rfl ?_
      refine r_getR ((hp 47).trans rfl) (hw.o (i := 0) (by decide) rfl) (hw.r wr_0_7) ?_
      refine am_R.next ((hp 50).trans rfl) rfl ?_
      refine r_getR ((hp 51).trans rfl) (hw.o (i := 0) (by decide) rfl) (hw.r wr_0_12) ?_
      refine am_R.next ((hp 54).trans rfl) rfl ?_
      refine am_R.next ((hp 55).trans rfl) rfl ?_
      refine am_R.next ((hp 56).trans rfl) rfl ?_
      refine r_cv (bs := [.inr (.inr ((24 : Nat) : Int)), .inl (am_w (x1 - 1))]) (st' := []) ((hp 57).trans rfl) (hw.o (i := 9) (by decide) rfl) rfl rfl (Nat.le_of_ble_eq_true rfl) (Nat.le_of_ble_eq_true rfl) (am_R.post H (fun v g10 hq => ?_))
      obtain ⟨r11, rfl, hw, H⟩ := hq
      change am_R _ _ _ _ _ [.inl r11] _ _
      exact am_R.ret ((hp 60).trans rfl) rfl H
    · have H := H.2 c12
      refine am_R.next ((hp 30).trans rfl) rfl ?_
      refine am_R.next ((hp 32).trans rfl) rfl ?_
      refine am_R.next ((hp 33).trans rfl) rfl ?_
      exact am_R.ret ((hp 34).trans rfl) rfl H
theorem w_S_beats_0 {scr : Nat × (Nat → Int)} {d : Nat} {h : am_H} {Q : Option am_V → am_H → Prop} {x1 : Int} (hs : am_sc scr) (hw : wf h) (H : (x1 < 1 → (Q (some (.inl (-3))) h)) ∧ (¬ (x1 < 1) → ((x1 ≤ 99 → (am_R (am_prog scr) d f_Play_goesOn 0 [some (.inr (.inr ((24 : Nat) : Int)))] [] h (fun v g1 => ∃ r2 : Int, v = some (.inl r2) ∧ wf g1 ∧ ((¬ (r2 = 0) → (am_R (am_prog scr) d f_Past_keep 0 [some (.inr (.inr ((63 : Nat) : Int))), some (.inr (.inr ((24 : Nat) : Int)))] [] g1 (fun v g3 => v = none ∧ wf g3 ∧ (am_R (am_prog scr) (d + 1) f_S_beats 41 [some (.inr (.inr ((0 : Nat) : Int))), some (.inl x1), some (.inl 0), some (.inl 0)] [] g3 Q)))) ∧ (r2 = 0 → (Q (some (.inl 0)) g1)))))) ∧ (¬ (x1 ≤ 99) → (Q (some (.inl (-3))) h))))) : am_R (am_prog scr) (d + 1) f_S_beats 0 [some (.inr (.inr ((0 : Nat) : Int))), some (.inl x1), none, none] [] h Q := by
  have hp : ∀ k, (am_prog scr).1 f_S_beats k = c_S_beats k := fun _ => rfl
  refine am_R.next ((hp 0).trans rfl) rfl ?_
  refine am_R.next ((hp 1).trans rfl) rfl ?_
  refine r_ic ((hp 2).trans rfl) (fun c6 => ?_) (fun c6 => ?_)
  · have H := H.1 c6
    refine am_R.next ((hp 11).trans rfl) rfl ?_
    exact am_R.ret ((hp 13).trans rfl) rfl H
  · have H := H.2 c6
    refine am_R.next ((hp 5).trans rfl) rfl ?_
    refine am_R.next ((hp 6).trans rfl) rfl ?_
    refine r_ic ((hp 8).trans rfl) (fun c5 => ?_) (fun c5 => ?_)
    · have H := H.1 c5
      refine am_R.next ((hp 14).trans rfl) rfl ?_
      refine r_getR ((hp 15).trans rfl) (hw.o (i := 0) (by decide) rfl) (hw.r wr_0_12) ?_
      refine r_cv (bs := []) (st' := []) ((hp 18).trans rfl) (hw.o (i := 24) (by decide) rfl) rfl rfl (Nat.le_of_ble_eq_true rfl) (Nat.le_of_ble_eq_true rfl) (am_R.post H (fun v g1 hq => ?_))
      obtain ⟨r2, rfl, hw, H⟩ := hq
      change am_R _ _ _ _ _ [.inl r2] _ _
      refine r_if ((hp 21).trans rfl) (fun c4 => ?_) (fun c4 => ?_)
      · have H := H.1 c4
        refine am_R.next ((hp 26).trans rfl) rfl ?_
        refine r_getR ((hp 27).trans rfl) (hw.o (i := 0) (by decide) rfl) (hw.r wr_0_14) ?_
        refine am_R.next ((hp 30).trans rfl) rfl ?_
        refine r_getR ((hp 31).trans rfl) (hw.o (i := 0) (by decide) rfl) (hw.r wr_0_12) ?_
        refine r_cv (bs := [.inr (.inr ((24 : Nat) : Int))]) (st' := []) ((hp 34).trans rfl) (hw.o (i := 63) (by decide) rfl) rfl rfl (Nat.le_of_ble_eq_true rfl) (Nat.le_of_ble_eq_true rfl) (am_R.post H (fun v g3 hq => ?_))
        obtain ⟨rfl, hw, H⟩ := hq
        change am_R _ _ _ _ _ [] _ _
        refine am_R.next ((hp 37).trans rfl) rfl ?_
        refine am_R.next (lv' := [some (.inr (.inr ((0 : Nat) : Int))), some (.inl x1), some (.inl 0), none]) ((hp 38).trans rfl) rfl ?_
        refine am_R.next ((hp 39).trans rfl) rfl ?_
        refine am_R.next (lv' := [some (.inr (.inr ((0 : Nat) : Int))), some (.inl x1), some (.inl 0), some (.inl 0)]) ((hp 40).trans rfl) rfl ?_
        exact H
      · have H := H.2 (Decidable.not_not.mp c4)
        refine am_R.next ((hp 24).trans rfl) rfl ?_
        exact am_R.ret ((hp 25).trans rfl) rfl H
    · have H := H.2 c5
      refine am_R.next ((hp 11).trans rfl) rfl ?_
      exact am_R.ret ((hp 13).trans rfl) rfl H
theorem w_S_beats_41 {scr : Nat × (Nat → Int)} {d : Nat} {h : am_H} {Q : Option am_V → am_H → Prop} {x1 x2 x3 : Int} (hs : am_sc scr) (hw : wf h) (H : (¬ (x3 < x1) → (Q (some (.inl x2)) h)) ∧ (x3 < x1 → (am_R (am_prog scr) d f_Play_goesOn 0 [some (.inr (.inr ((24 : Nat) : Int)))] [] h (fun v g1 => ∃ r2 : Int, v = some (.inl r2) ∧ wf g1 ∧ ((r2 = 0 → (Q (some (.inl x2)) g1)) ∧ (¬ (r2 = 0) → (am_R (am_prog scr) d f_Stage_step 0 [some (.inr (.inr ((9 : Nat) : Int))), some (.inr (.inr ((24 : Nat) : Int))), some (.inl (-1)), none, none, none, none] [] g1 (fun v g3 => ∃ r4 : Int, v = some (.inl r4) ∧ wf g3 ∧ ((r4 = (-1) → (∀ y5 : Int, y5 = am_w (x3 + 1) → (am_R (am_prog scr) (d + 1) f_S_beats 41 [some (.inr (.inr ((0 : Nat) : Int))), some (.inl x1), some (.inl x2), some (.inl y5)] [] g3 Q))) ∧ (¬ (r4 = (-1)) → (∀ y6 : Int, y6 = am_w (x2 + 1) → (∀ y7 : Int, y7 = am_w (x3 + 1) → (am_R (am_prog scr) (d + 1) f_S_beats 41 [some (.inr (.inr ((0 : Nat) : Int))), some (.inl x1), some (.inl y6), some (.inl y7)] [] g3 Q))))))))))))) : am_R (am_prog scr) (d + 1) f_S_beats 41 [some (.inr (.inr ((0 : Nat) : Int))), some (.inl x1), some (.inl x2), some (.inl x3)] [] h Q := by
  have hp : ∀ k, (am_prog scr).1 f_S_beats k = c_S_beats k := fun _ => rfl
  refine am_R.next ((hp 41).trans rfl) rfl ?_
  refine am_R.next ((hp 42).trans rfl) rfl ?_
  refine r_ic ((hp 43).trans rfl) (fun c10 => ?_) (fun c10 => ?_)
  · have H := H.1 c10
    refine am_R.next ((hp 81).trans rfl) rfl ?_
    exact am_R.ret ((hp 82).trans rfl) rfl H
  · have H := H.2 (Decidable.not_not.mp c10)
    refine am_R.next ((hp 46).trans rfl) rfl ?_
    refine r_getR ((hp 47).trans rfl) (hw.o (i := 0) (by decide) rfl) (hw.r wr_0_12) ?_
    refine r_cv (bs := []) (st' := []) ((hp 50).trans rfl) (hw.o (i := 24) (by decide) rfl) rfl rfl (Nat.le_of_ble_eq_true rfl) (Nat.le_of_ble_eq_true rfl) (am_R.post H (fun v g1 hq => ?_))
    obtain ⟨r2, rfl, hw, H⟩ := hq
    change am_R _ _ _ _ _ [.inl r2] _ _
    refine r_if ((hp 53).trans rfl) (fun c9 => ?_) (fun c9 => ?_)
    · have H := H.1 c9
      refine am_R.next ((hp 81).trans rfl) rfl ?_
      exact am_R.ret ((hp 82).trans rfl) rfl H
    · have H := H.2 c9
      refine am_R.next ((hp 56).trans rfl) rfl ?_
      refine r_getR ((hp 57).trans rfl) (hw.o (i := 0) (by decide) rfl) (hw.r wr_0_7) ?_
      refine am_R.next ((hp 60).trans rfl) rfl ?_
      refine r_getR ((hp 61).trans rfl) (hw.o (i := 0) (by decide) rfl) (hw.r wr_0_12) ?_
      refine am_R.next ((hp 64).trans rfl) rfl ?_
      refine r_cv (bs := [.inr (.inr ((24 : Nat) : Int)), .inl (-1)]) (st' := []) ((hp 65).trans rfl) (hw.o (i := 9) (by decide) rfl) rfl rfl (Nat.le_of_ble_eq_true rfl) (Nat.le_of_ble_eq_true rfl) (am_R.post H (fun v g3 hq => ?_))
      obtain ⟨r4, rfl, hw, H⟩ := hq
      change am_R _ _ _ _ _ [.inl r4] _ _
      refine am_R.next ((hp 68).trans rfl) rfl ?_
      refine r_ic ((hp 69).trans rfl) (fun c8 => ?_) (fun c8 => ?_)
      · have H := H.1 c8
        obtain ⟨y5, ey5⟩ : ∃ z : Int, z = am_w (x3 + 1) := ⟨_, rfl⟩
        have H := H y5 ey5
        refine am_R.next (lv' := [some (.inr (.inr ((0 : Nat) : Int))), some (.inl x1), some (.inl x2), some (.inl y5)]) (st' := []) (h' := g3) (pc' := 78) ((hp 75).trans rfl) (by rw [ey5]; rfl) ?_
        refine am_R.next ((hp 78).trans rfl) rfl ?_
        exact H
      · have H := H.2 c8
        obtain ⟨y6, ey6⟩ : ∃ z : Int, z = am_w (x2 + 1) := ⟨_, rfl⟩
        have H := H y6 ey6
        refine am_R.next (lv' := [some (.inr (.inr ((0 : Nat) : Int))), some (.inl x1), some (.inl y6), some (.inl x3)]) (st' := []) (h' := g3) (pc' := 75) ((hp 72).trans rfl) (by rw [ey6]; rfl) ?_
        obtain ⟨y7, ey7⟩ : ∃ z : Int, z = am_w (x3 + 1) := ⟨_, rfl⟩
        have H := H y7 ey7
        refine am_R.next (lv' := [some (.inr (.inr ((0 : Nat) : Int))), some (.inl x1), some (.inl y6), some (.inl y7)]) (st' := []) (h' := g3) (pc' := 78) ((hp 75).trans rfl) (by rw [ey7]; rfl) ?_
        refine am_R.next ((hp 78).trans rfl) rfl ?_
        exact H
theorem w_S_change_0 {scr : Nat × (Nat → Int)} {d : Nat} {h : am_H} {Q : Option am_V → am_H → Prop} {x1 x2 : Int} (hs : am_sc scr) (hw : wf h) (H : am_R (am_prog scr) d f_Play_has 0 [some (.inr (.inr ((24 : Nat) : Int))), some (.inl x1)] [] h (fun v g1 => ∃ r2 : Int, v = some (.inl r2) ∧ wf g1 ∧ ((r2 = 0 → (Q (some (.inl (-11))) g1)) ∧ (¬ (r2 = 0) → (am_R (am_prog scr) d f_Play_has 0 [some (.inr (.inr ((24 : Nat) : Int))), some (.inl x2)] [] g1 (fun v g3 => ∃ r4 : Int, v = some (.inl r4) ∧ wf g3 ∧ ((r4 = 0 → (Q (some (.inl (-11))) g3)) ∧ (¬ (r4 = 0) → ((¬ (x1 = x2) → (am_R (am_prog scr) d f_Past_keep 0 [some (.inr (.inr ((63 : Nat) : Int))), some (.inr (.inr ((24 : Nat) : Int)))] [] g3 (fun v g5 => v = none ∧ wf g5 ∧ (am_R (am_prog scr) d f_Play_swapBeds 0 [some (.inr (.inr ((24 : Nat) : Int))), some (.inl x1), some (.inl x2), none] [] g5 (fun v g6 => v = none ∧ wf g6 ∧ ((0 ≤ x1 ∧ x1 < 6) ∧ (Q (some (.inl (g6.2.2.2 25 x1.toNat))) g6))))))) ∧ (x1 = x2 → (Q (some (.inl (-11))) g3))))))))))) : am_R (am_prog scr) (d + 1) f_S_change 0 [some (.inr (.inr ((0 : Nat) : Int))), some (.inl x1), some (.inl x2)] [] h Q := by
  have hp : ∀ k, (am_prog scr).1 f_S_change k = c_S_change k := fun _ => rfl
  refine am_R.next ((hp 0).trans rfl) rfl ?_
  refine r_getR ((hp 1).trans rfl) (hw.o (i := 0) (by decide) rfl) (hw.r wr_0_12) ?_
  refine am_R.next ((hp 4).trans rfl) rfl ?_
  refine r_cv (bs := [.inl x1]) (st' := []) ((hp 5).trans rfl) (hw.o (i := 24) (by decide) rfl) rfl rfl (Nat.le_of_ble_eq_true rfl) (Nat.le_of_ble_eq_true rfl) (am_R.post H (fun v g1 hq => ?_))
  obtain ⟨r2, rfl, hw, H⟩ := hq
  change am_R _ _ _ _ _ [.inl r2] _ _
  refine r_if ((hp 8).trans rfl) (fun c10 => ?_) (fun c10 => ?_)
  · have H := H.1 c10
    refine am_R.next ((hp 27).trans rfl) rfl ?_
    exact am_R.ret ((hp 29).trans rfl) rfl H
  · have H := H.2 c10
    refine am_R.next ((hp 11).trans rfl) rfl ?_
    refine r_getR ((hp 12).trans rfl) (hw.o (i := 0) (by decide) rfl) (hw.r wr_0_12) ?_
    refine am_R.next ((hp 15).trans rfl) rfl ?_
    refine r_cv (bs := [.inl x2]) (st' := []) ((hp 16).trans rfl) (hw.o (i := 24) (by decide) rfl) rfl rfl (Nat.le_of_ble_eq_true rfl) (Nat.le_of_ble_eq_true rfl) (am_R.post H (fun v g3 hq => ?_))
    obtain ⟨r4, rfl, hw, H⟩ := hq
    change am_R _ _ _ _ _ [.inl r4] _ _
    refine r_if ((hp 19).trans rfl) (fun c9 => ?_) (fun c9 => ?_)
    · have H := H.1 c9
      refine am_R.next ((hp 27).trans rfl) rfl ?_
      exact am_R.ret ((hp 29).trans rfl) rfl H
    · have H := H.2 c9
      refine am_R.next ((hp 22).trans rfl) rfl ?_
      refine am_R.next ((hp 23).trans rfl) rfl ?_
      refine r_ic ((hp 24).trans rfl) (fun c8 => ?_) (fun c8 => ?_)
      · have H := H.1 c8
        refine am_R.next ((hp 30).trans rfl) rfl ?_
        refine r_getR ((hp 31).trans rfl) (hw.o (i := 0) (by decide) rfl) (hw.r wr_0_14) ?_
        refine am_R.next ((hp 34).trans rfl) rfl ?_
        refine r_getR ((hp 35).trans rfl) (hw.o (i := 0) (by decide) rfl) (hw.r wr_0_12) ?_
        refine r_cv (bs := [.inr (.inr ((24 : Nat) : Int))]) (st' := []) ((hp 38).trans rfl) (hw.o (i := 63) (by decide) rfl) rfl rfl (Nat.le_of_ble_eq_true rfl) (Nat.le_of_ble_eq_true rfl) (am_R.post H (fun v g5 hq => ?_))
        obtain ⟨rfl, hw, H⟩ := hq
        change am_R _ _ _ _ _ [] _ _
        refine am_R.next ((hp 41).trans rfl) rfl ?_
        refine r_getR ((hp 42).trans rfl) (hw.o (i := 0) (by decide) rfl) (hw.r wr_0_12) ?_
        refine am_R.next ((hp 45).trans rfl) rfl ?_
        refine am_R.next ((hp 46).trans rfl) rfl ?_
        refine r_cv (bs := [.inl x1, .inl x2]) (st' := []) ((hp 47).trans rfl) (hw.o (i := 24) (by decide) rfl) rfl rfl (Nat.le_of_ble_eq_true rfl) (Nat.le_of_ble_eq_true rfl) (am_R.post H (fun v g6 hq => ?_))
        obtain ⟨rfl, hw, H⟩ := hq
        change am_R _ _ _ _ _ [] _ _
        refine am_R.next ((hp 50).trans rfl) rfl ?_
        refine r_getR ((hp 51).trans rfl) (hw.o (i := 0) (by decide) rfl) (hw.r wr_0_12) ?_
        refine r_getR ((hp 54).trans rfl) (hw.o (i := 24) (by decide) rfl) (hw.r wr_24_1) ?_
        refine am_R.next ((hp 57).trans rfl) rfl ?_
        obtain ⟨c7, H⟩ := H
        refine r_iald ((hp 58).trans rfl) (hw.a (i := 25) (by decide) rfl c7.1 c7.2) ?_
        exact am_R.ret ((hp 59).trans rfl) rfl H
      · have H := H.2 (Decidable.not_not.mp c8)
        refine am_R.next ((hp 27).trans rfl) rfl ?_
        exact am_R.ret ((hp 29).trans rfl) rfl H
theorem w_S_dream_0 {scr : Nat × (Nat → Int)} {d : Nat} {h : am_H} {Q : Option am_V → am_H → Prop} {x1 x2 : Int} (hs : am_sc scr) (hw : wf h) (H : am_R (am_prog scr) d f_Play_has 0 [some (.inr (.inr ((24 : Nat) : Int))), some (.inl x1)] [] h (fun v g1 => ∃ r2 : Int, v = some (.inl r2) ∧ wf g1 ∧ ((r2 = 0 → (Q (some (.inl (-11))) g1)) ∧ (¬ (r2 = 0) → ((x2 < 0 → (Q (some (.inl (-11))) g1)) ∧ (¬ (x2 < 0) → ((x2 < 10 → (am_R (am_prog scr) d f_Past_keep 0 [some (.inr (.inr ((63 : Nat) : Int))), some (.inr (.inr ((24 : Nat) : Int)))] [] g1 (fun v g3 => v = none ∧ wf g3 ∧ ((0 ≤ x1 ∧ x1 < 6) ∧ (∀ y5 : Int, y5 = g3.2.2.2 26 x1.toNat → (((0 ≤ x1 ∧ x1 < 6)) ∧ (∀ h7 : am_H, h7 = am_put g3 26 x1.toNat x2 → (Q (some (.inl y5)) h7)))))))) ∧ (¬ (x2 < 10) → (Q (some (.inl (-11))) g1))))))))) : am_R (am_prog scr) (d + 1) f_S_dream 0 [some (.inr (.inr ((0 : Nat) : Int))), some (.inl x1), some (.inl x2), none] [] h Q := by
  have hp : ∀ k, (am_prog scr).1 f_S_dream k = c_S_dream k := fun _ => rfl
  refine am_R.next ((hp 0).trans rfl) rfl ?_
  refine r_getR ((hp 1).trans rfl) (hw.o (i := 0) (by decide) rfl) (hw.r wr_0_12) ?_
  refine am_R.next ((hp 4).trans rfl) rfl ?_
  refine r_cv (bs := [.inl x1]) (st' := []) ((hp 5).trans rfl) (hw.o (i := 24) (by decide) rfl) rfl rfl (Nat.le_of_ble_eq_true rfl) (Nat.le_of_ble_eq_true rfl) (am_R.post H (fun v g1 hq => ?_))
  obtain ⟨r2, rfl, hw, H⟩ := hq
  change am_R _ _ _ _ _ [.inl r2] _ _
  refine r_if ((hp 8).trans rfl) (fun c10 => ?_) (fun c10 => ?_)
  · have H := H.1 c10
    refine am_R.next ((hp 21).trans rfl) rfl ?_
    exact am_R.ret ((hp 23).trans rfl) rfl H
  · have H := H.2 c10
    refine am_R.next ((hp 11).trans rfl) rfl ?_
    refine r_if ((hp 12).trans rfl) (fun c9 => ?_) (fun c9 => ?_)
    · have H := H.1 c9
      refine am_R.next ((hp 21).trans rfl) rfl ?_
      exact am_R.ret ((hp 23).trans rfl) rfl H
    · have H := H.2 c9
      refine am_R.next ((hp 15).trans rfl) rfl ?_
      refine am_R.next ((hp 16).trans rfl) rfl ?_
      refine r_ic ((hp 18).trans rfl) (fun c8 => ?_) (fun c8 => ?_)
      · have H := H.1 c8
        refine am_R.next ((hp 24).trans rfl) rfl ?_
        refine r_getR ((hp 25).trans rfl) (hw.o (i := 0) (by decide) rfl) (hw.r wr_0_14) ?_
        refine am_R.next ((hp 28).trans rfl) rfl ?_
        refine r_getR ((hp 29).trans rfl) (hw.o (i := 0) (by decide) rfl) (hw.r wr_0_12) ?_
        refine r_cv (bs := [.inr (.inr ((24 : Nat) : Int))]) (st' := []) ((hp 32).trans rfl) (hw.o (i := 63) (by decide) rfl) rfl rfl (Nat.le_of_ble_eq_true rfl) (Nat.le_of_ble_eq_true rfl) (am_R.post H (fun v g3 hq => ?_))
        obtain ⟨rfl, hw, H⟩ := hq
        change am_R _ _ _ _ _ [] _ _
        refine am_R.next ((hp 35).trans rfl) rfl ?_
        refine r_getR ((hp 36).trans rfl) (hw.o (i := 0) (by decide) rfl) (hw.r wr_0_12) ?_
        refine r_getR ((hp 39).trans rfl) (hw.o (i := 24) (by decide) rfl) (hw.r wr_24_2) ?_
        refine am_R.next ((hp 42).trans rfl) rfl ?_
        obtain ⟨c4, H⟩ := H
        refine r_iald ((hp 43).trans rfl) (hw.a (i := 26) (by decide) rfl c4.1 c4.2) ?_
        obtain ⟨y5, ey5⟩ : ∃ z : Int, z = g3.2.2.2 26 x1.toNat := ⟨_, rfl⟩
        have H := H y5 ey5
        refine am_R.next (lv' := [some (.inr (.inr ((0 : Nat) : Int))), some (.inl x1), some (.inl x2), some (.inl y5)]) (st' := []) (h' := g3) (pc' := 45) ((hp 44).trans rfl) (by rw [ey5]; rfl) ?_
        refine am_R.next ((hp 45).trans rfl) rfl ?_
        refine r_getR ((hp 46).trans rfl) (hw.o (i := 0) (by decide) rfl) (hw.r wr_0_12) ?_
        refine r_getR ((hp 49).trans rfl) (hw.o (i := 24) (by decide) rfl) (hw.r wr_24_2) ?_
        refine am_R.next ((hp 52).trans rfl) rfl ?_
        refine am_R.next ((hp 53).trans rfl) rfl ?_
        obtain ⟨c6, H⟩ := H
        obtain ⟨h7, eh7⟩ : ∃ z : am_H, z = am_put g3 26 x1.toNat x2 := ⟨_, rfl⟩
        have H := H h7 eh7
        refine r_iast ((hp 54).trans rfl) (hw.a (i := 26) (by decide) rfl c6.1 c6.2) ?_
        have hw : wf h7 := by rw [eh7]; exact hw.pa na_26
        change am_R _ _ _ _ _ _ (am_put g3 26 x1.toNat x2) _
        rw [← eh7]
        refine am_R.next ((hp 55).trans rfl) rfl ?_
        exact am_R.ret ((hp 56).trans rfl) rfl H
      · have H := H.2 c8
        refine am_R.next ((hp 21).trans rfl) rfl ?_
        exact am_R.ret ((hp 23).trans rfl) rfl H
theorem w_S_hush_0 {scr : Nat × (Nat → Int)} {d : Nat} {h : am_H} {Q : Option am_V → am_H → Prop} {x1 : Int} (hs : am_sc scr) (hw : wf h) (H : (x1 < 0 → (Q (some (.inl (-11))) h)) ∧ (¬ (x1 < 0) → ((x1 < 10 → (am_R (am_prog scr) d f_Past_keep 0 [some (.inr (.inr ((63 : Nat) : Int))), some (.inr (.inr ((24 : Nat) : Int)))] [] h (fun v g1 => v = none ∧ wf g1 ∧ (∀ y2 : Int, y2 = g1.2.2.2 24 3 → (∀ h3 : am_H, h3 = am_put g1 24 3 x1 → (Q (some (.inl y2)) h3)))))) ∧ (¬ (x1 < 10) → (Q (some (.inl (-11))) h))))) : am_R (am_prog scr) (d + 1) f_S_hush 0 [some (.inr (.inr ((0 : Nat) : Int))), some (.inl x1), none] [] h Q := by
  have hp : ∀ k, (am_prog scr).1 f_S_hush k = c_S_hush k := fun _ => rfl
  refine am_R.next ((hp 0).trans rfl) rfl ?_
  refine r_if ((hp 1).trans rfl) (fun c5 => ?_) (fun c5 => ?_)
  · have H := H.1 c5
    refine am_R.next ((hp 10).trans rfl) rfl ?_
    exact am_R.ret ((hp 12).trans rfl) rfl H
  · have H := H.2 c5
    refine am_R.next ((hp 4).trans rfl) rfl ?_
    refine am_R.next ((hp 5).trans rfl) rfl ?_
    refine r_ic ((hp 7).trans rfl) (fun c4 => ?_) (fun c4 => ?_)
    · have H := H.1 c4
      refine am_R.next ((hp 13).trans rfl) rfl ?_
      refine r_getR ((hp 14).trans rfl) (hw.o (i := 0) (by decide) rfl) (hw.r wr_0_14) ?_
      refine am_R.next ((hp 17).trans rfl) rfl ?_
      refine r_getR ((hp 18).trans rfl) (hw.o (i := 0) (by decide) rfl) (hw.r wr_0_12) ?_
      refine r_cv (bs := [.inr (.inr ((24 : Nat) : Int))]) (st' := []) ((hp 21).trans rfl) (hw.o (i := 63) (by decide) rfl) rfl rfl (Nat.le_of_ble_eq_true rfl) (Nat.le_of_ble_eq_true rfl) (am_R.post H (fun v g1 hq => ?_))
      obtain ⟨rfl, hw, H⟩ := hq
      change am_R _ _ _ _ _ [] _ _
      refine am_R.next ((hp 24).trans rfl) rfl ?_
      refine r_getR ((hp 25).trans rfl) (hw.o (i := 0) (by decide) rfl) (hw.r wr_0_12) ?_
      refine r_getI ((hp 28).trans rfl) (hw.o (i := 24) (by decide) rfl) ?_
      obtain ⟨y2, ey2⟩ : ∃ z : Int, z = g1.2.2.2 24 3 := ⟨_, rfl⟩
      have H := H y2 ey2
      refine am_R.next (lv' := [some (.inr (.inr ((0 : Nat) : Int))), some (.inl x1), some (.inl y2)]) (st' := []) (h' := g1) (pc' := 32) ((hp 31).trans rfl) (by rw [ey2]; rfl) ?_
      refine am_R.next ((hp 32).trans rfl) rfl ?_
      refine r_getR ((hp 33).trans rfl) (hw.o (i := 0) (by decide) rfl) (hw.r wr_0_12) ?_
      refine am_R.next ((hp 36).trans rfl) rfl ?_
      obtain ⟨h3, eh3⟩ : ∃ z : am_H, z = am_put g1 24 3 x1 := ⟨_, rfl⟩
      have H := H h3 eh3
      refine r_putI ((hp 37).trans rfl) (hw.o (i := 24) (by decide) rfl) ?_
      have hw : wf h3 := by rw [eh3]; exact hw.put np_24_3
      change am_R _ _ _ _ _ _ (am_put g1 24 3 x1) _
      rw [← eh3]
      refine am_R.next ((hp 40).trans rfl) rfl ?_
      exact am_R.ret ((hp 41).trans rfl) rfl H
    · have H := H.2 c4
      refine am_R.next ((hp 10).trans rfl) rfl ?_
      exact am_R.ret ((hp 12).trans rfl) rfl H
theorem w_S_undo_0 {scr : Nat × (Nat → Int)} {d : Nat} {h : am_H} {Q : Option am_V → am_H → Prop} {x1 : Int} (hs : am_sc scr) (hw : wf h) (H : (x1 < 1 → (Q (some (.inl (-3))) h)) ∧ (¬ (x1 < 1) → ((x1 ≤ (h.2.2.2 63 2) → (am_R (am_prog scr) d f_Past_bringBack 0 [some (.inr (.inr ((63 : Nat) : Int))), some (.inr (.inr ((24 : Nat) : Int))), some (.inl x1)] [] h (fun v g1 => v = none ∧ wf g1 ∧ (Q (some (.inl (g1.2.2.2 63 2))) g1)))) ∧ (¬ (x1 ≤ (h.2.2.2 63 2)) → (Q (some (.inl (-3))) h))))) : am_R (am_prog scr) (d + 1) f_S_undo 0 [some (.inr (.inr ((0 : Nat) : Int))), some (.inl x1)] [] h Q := by
  have hp : ∀ k, (am_prog scr).1 f_S_undo k = c_S_undo k := fun _ => rfl
  refine am_R.next ((hp 0).trans rfl) rfl ?_
  refine am_R.next ((hp 1).trans rfl) rfl ?_
  refine r_ic ((hp 2).trans rfl) (fun c3 => ?_) (fun c3 => ?_)
  · have H := H.1 c3
    refine am_R.next ((hp 16).trans rfl) rfl ?_
    exact am_R.ret ((hp 18).trans rfl) rfl H
  · have H := H.2 c3
    refine am_R.next ((hp 5).trans rfl) rfl ?_
    refine am_R.next ((hp 6).trans rfl) rfl ?_
    refine r_getR ((hp 7).trans rfl) (hw.o (i := 0) (by decide) rfl) (hw.r wr_0_14) ?_
    refine r_getI ((hp 10).trans rfl) (hw.o (i := 63) (by decide) rfl) ?_
    refine r_ic ((hp 13).trans rfl) (fun c2 => ?_) (fun c2 => ?_)
    · have H := H.1 c2
      refine am_R.next ((hp 19).trans rfl) rfl ?_
      refine r_getR ((hp 20).trans rfl) (hw.o (i := 0) (by decide) rfl) (hw.r wr_0_14) ?_
      refine am_R.next ((hp 23).trans rfl) rfl ?_
      refine r_getR ((hp 24).trans rfl) (hw.o (i := 0) (by decide) rfl) (hw.r wr_0_12) ?_
      refine am_R.next ((hp 27).trans rfl) rfl ?_
      refine r_cv (bs := [.inr (.inr ((24 : Nat) : Int)), .inl x1]) (st' := []) ((hp 28).trans rfl) (hw.o (i := 63) (by decide) rfl) rfl rfl (Nat.le_of_ble_eq_true rfl) (Nat.le_of_ble_eq_true rfl) (am_R.post H (fun v g1 hq => ?_))
      obtain ⟨rfl, hw, H⟩ := hq
      change am_R _ _ _ _ _ [] _ _
      refine am_R.next ((hp 31).trans rfl) rfl ?_
      refine r_getR ((hp 32).trans rfl) (hw.o (i := 0) (by decide) rfl) (hw.r wr_0_14) ?_
      refine r_getI ((hp 35).trans rfl) (hw.o (i := 63) (by decide) rfl) ?_
      exact am_R.ret ((hp 38).trans rfl) rfl H
    · have H := H.2 c2
      refine am_R.next ((hp 16).trans rfl) rfl ?_
      exact am_R.ret ((hp 18).trans rfl) rfl H
theorem w_S_perform_0 {scr : Nat × (Nat → Int)} {d : Nat} {h : am_H} {Q : Option am_V → am_H → Prop} {x1 : Int} (hs : am_sc scr) (hw : wf h) (H : am_R (am_prog scr) d f_S_trayRefusal 0 [some (.inr (.inr ((0 : Nat) : Int))), some (.inl x1)] [] h (fun v g1 => ∃ r2 : Int, v = some (.inl r2) ∧ wf g1 ∧ ((r2 = 0 → (am_R (am_prog scr) d f_Play_takeFrom 0 [some (.inr (.inr ((27 : Nat) : Int))), some (.inr (.inr ((24 : Nat) : Int)))] [] g1 (fun v g3 => v = none ∧ wf g3 ∧ ((0 ≤ x1 ∧ x1 < 4) ∧ (am_R (am_prog scr) d f_S_enactAll 0 [some (.inr (.inr ((0 : Nat) : Int))), some (.inr (.inr ((24 : Nat) : Int))), some (.inr (.inr (((95 + 2 * x1.toNat) : Nat) : Int))), none] [] g3 (fun v g5 => ∃ r6 : Int, v = some (.inl r6) ∧ wf g5 ∧ ((r6 ≤ 0 → (Q (some (.inl r6)) g5)) ∧ (¬ (r6 ≤ 0) → (am_R (am_prog scr) d f_Past_keep 0 [some (.inr (.inr ((63 : Nat) : Int))), some (.inr (.inr ((27 : Nat) : Int)))] [] g5 (fun v g7 => v = none ∧ wf g7 ∧ (Q (some (.inl r6)) g7))))))))))) ∧ (¬ (r2 = 0) → (Q (some (.inl r2)) g1))))) : am_R (am_prog scr) (d + 1) f_S_perform 0 [some (.inr (.inr ((0 : Nat) : Int))), some (.inl x1), none, none] [] h Q := by
  have hp : ∀ k, (am_prog scr).1 f_S_perform k = c_S_perform k := fun _ => rfl
  refine am_R.next ((hp 0).trans rfl) rfl ?_
  refine am_R.next ((hp 1).trans rfl) rfl ?_
  refine r_cv (bs := [.inl x1]) (st' := []) ((hp 2).trans rfl) (hw.o (i := 0) (by decide) rfl) rfl rfl (Nat.le_of_ble_eq_true rfl) (Nat.le_of_ble_eq_true rfl) (am_R.post H (fun v g1 hq => ?_))
  obtain ⟨r2, rfl, hw, H⟩ := hq
  change am_R _ _ _ _ _ [.inl r2] _ _
  refine am_R.next (lv' := [some (.inr (.inr ((0 : Nat) : Int))), some (.inl x1), some (.inl r2), none]) ((hp 5).trans rfl) rfl ?_
  refine am_R.next ((hp 6).trans rfl) rfl ?_
  refine r_if ((hp 7).trans rfl) (fun c9 => ?_) (fun c9 => ?_)
  · have H := H.1 c9
    refine am_R.next ((hp 12).trans rfl) rfl ?_
    refine r_getR ((hp 13).trans rfl) (hw.o (i := 0) (by decide) rfl) (hw.r wr_0_13) ?_
    refine am_R.next ((hp 16).trans rfl) rfl ?_
    refine r_getR ((hp 17).trans rfl) (hw.o (i := 0) (by decide) rfl) (hw.r wr_0_12) ?_
    refine r_cv (bs := [.inr (.inr ((24 : Nat) : Int))]) (st' := []) ((hp 20).trans rfl) (hw.o (i := 27) (by decide) rfl) rfl rfl (Nat.le_of_ble_eq_true rfl) (Nat.le_of_ble_eq_true rfl) (am_R.post H (fun v g3 hq => ?_))
    obtain ⟨rfl, hw, H⟩ := hq
    change am_R _ _ _ _ _ [] _ _
    refine am_R.next ((hp 23).trans rfl) rfl ?_
    refine am_R.next ((hp 24).trans rfl) rfl ?_
    refine r_getR ((hp 25).trans rfl) (hw.o (i := 0) (by decide) rfl) (hw.r wr_0_12) ?_
    refine am_R.next ((hp 28).trans rfl) rfl ?_
    refine r_getR ((hp 29).trans rfl) (hw.o (i := 0) (by decide) rfl) (hw.r wr_0_15) ?_
    refine am_R.next ((hp 32).trans rfl) rfl ?_
    obtain ⟨c4, H⟩ := H
    refine r_aald ((hp 33).trans rfl) (hw.a (i := 17) (by decide) rfl c4.1 c4.2) (tr_all hw c4).2 ?_
    refine r_cv (bs := [.inr (.inr ((24 : Nat) : Int)), .inr (.inr (((95 + 2 * x1.toNat) : Nat) : Int))]) (st' := []) ((hp 34).trans rfl) (hw.o (i := 0) (by decide) rfl) rfl rfl (Nat.le_of_ble_eq_true rfl) (Nat.le_of_ble_eq_true rfl) (am_R.post H (fun v g5 hq => ?_))
    obtain ⟨r6, rfl, hw, H⟩ := hq
    change am_R _ _ _ _ _ [.inl r6] _ _
    refine am_R.next (lv' := [some (.inr (.inr ((0 : Nat) : Int))), some (.inl x1), some (.inl r2), some (.inl r6)]) ((hp 37).trans rfl) rfl ?_
    refine am_R.next ((hp 38).trans rfl) rfl ?_
    refine r_if ((hp 39).trans rfl) (fun c8 => ?_) (fun c8 => ?_)
    · have H := H.1 c8
      refine am_R.next ((hp 53).trans rfl) rfl ?_
      exact am_R.ret ((hp 54).trans rfl) rfl H
    · have H := H.2 c8
      refine am_R.next ((hp 42).trans rfl) rfl ?_
      refine r_getR ((hp 43).trans rfl) (hw.o (i := 0) (by decide) rfl) (hw.r wr_0_14) ?_
      refine am_R.next ((hp 46).trans rfl) rfl ?_
      refine r_getR ((hp 47).trans rfl) (hw.o (i := 0) (by decide) rfl) (hw.r wr_0_13) ?_
      refine r_cv (bs := [.inr (.inr ((27 : Nat) : Int))]) (st' := []) ((hp 50).trans rfl) (hw.o (i := 63) (by decide) rfl) rfl rfl (Nat.le_of_ble_eq_true rfl) (Nat.le_of_ble_eq_true rfl) (am_R.post H (fun v g7 hq => ?_))
      obtain ⟨rfl, hw, H⟩ := hq
      change am_R _ _ _ _ _ [] _ _
      refine am_R.next ((hp 53).trans rfl) rfl ?_
      exact am_R.ret ((hp 54).trans rfl) rfl H
  · have H := H.2 c9
    refine am_R.next ((hp 10).trans rfl) rfl ?_
    exact am_R.ret ((hp 11).trans rfl) rfl H
theorem w_S_night_0 {scr : Nat × (Nat → Int)} {d : Nat} {h : am_H} {Q : Option am_V → am_H → Prop} {x1 x2 : Int} (hs : am_sc scr) (hw : wf h) (H : (x2 < 1 → (Q (some (.inl (-3))) h)) ∧ (¬ (x2 < 1) → ((x2 ≤ 40 → (am_R (am_prog scr) d f_Play_takeFrom 0 [some (.inr (.inr ((27 : Nat) : Int))), some (.inr (.inr ((24 : Nat) : Int)))] [] h (fun v g1 => v = none ∧ wf g1 ∧ (∀ h2 : am_H, h2 = am_put g1 0 5 x1 → (am_R (am_prog scr) (d + 1) f_S_night 35 [some (.inr (.inr ((0 : Nat) : Int))), some (.inl x1), some (.inl x2), some (.inl 0), some (.inl 0), none] [] h2 Q))))) ∧ (¬ (x2 ≤ 40) → (Q (some (.inl (-3))) h))))) : am_R (am_prog scr) (d + 1) f_S_night 0 [some (.inr (.inr ((0 : Nat) : Int))), some (.inl x1), some (.inl x2), none, none, none] [] h Q := by
  have hp : ∀ k, (am_prog scr).1 f_S_night k = c_S_night k := fun _ => rfl
  refine am_R.next ((hp 0).trans rfl) rfl ?_
  refine am_R.next ((hp 1).trans rfl) rfl ?_
  refine r_ic ((hp 2).trans rfl) (fun c4 => ?_) (fun c4 => ?_)
  · have H := H.1 c4
    refine am_R.next ((hp 11).trans rfl) rfl ?_
    exact am_R.ret ((hp 13).trans rfl) rfl H
  · have H := H.2 c4
    refine am_R.next ((hp 5).trans rfl) rfl ?_
    refine am_R.next ((hp 6).trans rfl) rfl ?_
    refine r_ic ((hp 8).trans rfl) (fun c3 => ?_) (fun c3 => ?_)
    · have H := H.1 c3
      refine am_R.next ((hp 14).trans rfl) rfl ?_
      refine r_getR ((hp 15).trans rfl) (hw.o (i := 0) (by decide) rfl) (hw.r wr_0_13) ?_
      refine am_R.next ((hp 18).trans rfl) rfl ?_
      refine r_getR ((hp 19).trans rfl) (hw.o (i := 0) (by decide) rfl) (hw.r wr_0_12) ?_
      refine r_cv (bs := [.inr (.inr ((24 : Nat) : Int))]) (st' := []) ((hp 22).trans rfl) (hw.o (i := 27) (by decide) rfl) rfl rfl (Nat.le_of_ble_eq_true rfl) (Nat.le_of_ble_eq_true rfl) (am_R.post H (fun v g1 hq => ?_))
      obtain ⟨rfl, hw, H⟩ := hq
      change am_R _ _ _ _ _ [] _ _
      refine am_R.next ((hp 25).trans rfl) rfl ?_
      refine am_R.next ((hp 26).trans rfl) rfl ?_
      obtain ⟨h2, eh2⟩ : ∃ z : am_H, z = am_put g1 0 5 x1 := ⟨_, rfl⟩
      have H := H h2 eh2
      refine r_putI ((hp 27).trans rfl) (hw.o (i := 0) (by decide) rfl) ?_
      have hw : wf h2 := by rw [eh2]; exact hw.put np_0_5
      change am_R _ _ _ _ _ _ (am_put g1 0 5 x1) _
      rw [← eh2]
      refine am_R.next ((hp 30).trans rfl) rfl ?_
      refine am_R.next (lv' := [some (.inr (.inr ((0 : Nat) : Int))), some (.inl x1), some (.inl x2), some (.inl 0), none, none]) ((hp 31).trans rfl) rfl ?_
      refine am_R.next ((hp 32).trans rfl) rfl ?_
      refine am_R.next (lv' := [some (.inr (.inr ((0 : Nat) : Int))), some (.inl x1), some (.inl x2), some (.inl 0), some (.inl 0), none]) ((hp 33).trans rfl) rfl ?_
      exact H
    · have H := H.2 c3
      refine am_R.next ((hp 11).trans rfl) rfl ?_
      exact am_R.ret ((hp 13).trans rfl) rfl H
theorem w_S_night_35 {scr : Nat × (Nat → Int)} {d : Nat} {h : am_H} {Q : Option am_V → am_H → Prop} {x1 x2 x3 x4 : Int} (hs : am_sc scr) (hw : wf h) (H : (¬ (x4 < x2) → ((x3 ≤ 0 → (Q (some (.inl x3)) h)) ∧ (¬ (x3 ≤ 0) → (am_R (am_prog scr) d f_Past_keep 0 [some (.inr (.inr ((63 : Nat) : Int))), some (.inr (.inr ((27 : Nat) : Int)))] [] h (fun v g1 => v = none ∧ wf g1 ∧ (Q (some (.inl x3)) g1)))))) ∧ (x4 < x2 → (am_R (am_prog scr) d f_S_drawDeed 0 [some (.inr (.inr ((0 : Nat) : Int))), none, none] [] h (fun v g3 => ∃ r4 : Int, v = some (.inl r4) ∧ wf g3 ∧ (am_R (am_prog scr) d f_Stage_whyNot 0 [some (.inr (.inr ((9 : Nat) : Int))), some (.inr (.inr ((24 : Nat) : Int))), some (.inr (.inl r4)), none, none, none] [] g3 (fun v g5 => ∃ r6 : Int, v = some (.inl r6) ∧ wf g5 ∧ ((¬ (r6 = 0) → (∀ y7 : Int, y7 = am_w (x4 + 1) → (am_R (am_prog scr) (d + 1) f_S_night 35 [some (.inr (.inr ((0 : Nat) : Int))), some (.inl x1), some (.inl x2), some (.inl x3), some (.inl y7), none] [] g5 Q))) ∧ (r6 = 0 → (am_R (am_prog scr) d f_Stage_enact 0 [some (.inr (.inr ((9 : Nat) : Int))), some (.inr (.inr ((24 : Nat) : Int))), some (.inl r4)] [] g5 (fun v g8 => v = none ∧ wf g8 ∧ (∀ y9 : Int, y9 = am_w (x3 + 1) → (∀ y10 : Int, y10 = am_w (x4 + 1) → (am_R (am_prog scr) (d + 1) f_S_night 35 [some (.inr (.inr ((0 : Nat) : Int))), some (.inl x1), some (.inl x2), some (.inl y9), some (.inl y10), none] [] g8 Q))))))))))))) : am_R (am_prog scr) (d + 1) f_S_night 35 [some (.inr (.inr ((0 : Nat) : Int))), some (.inl x1), some (.inl x2), some (.inl x3), some (.inl x4), none] [] h Q := by
  have hp : ∀ k, (am_prog scr).1 f_S_night k = c_S_night k := fun _ => rfl
  refine am_R.next ((hp 35).trans rfl) rfl ?_
  refine am_R.next ((hp 37).trans rfl) rfl ?_
  refine r_ic ((hp 38).trans rfl) (fun c12 => ?_) (fun c12 => ?_)
  · have H := H.1 c12
    refine am_R.next ((hp 86).trans rfl) rfl ?_
    refine r_if ((hp 87).trans rfl) (fun c2 => ?_) (fun c2 => ?_)
    · have H := H.1 c2
      refine am_R.next ((hp 101).trans rfl) rfl ?_
      exact am_R.ret ((hp 102).trans rfl) rfl H
    · have H := H.2 c2
      refine am_R.next ((hp 90).trans rfl) rfl ?_
      refine r_getR ((hp 91).trans rfl) (hw.o (i := 0) (by decide) rfl) (hw.r wr_0_14) ?_
      refine am_R.next ((hp 94).trans rfl) rfl ?_
      refine r_getR ((hp 95).trans rfl) (hw.o (i := 0) (by decide) rfl) (hw.r wr_0_13) ?_
      refine r_cv (bs := [.inr (.inr ((27 : Nat) : Int))]) (st' := []) ((hp 98).trans rfl) (hw.o (i := 63) (by decide) rfl) rfl rfl (Nat.le_of_ble_eq_true rfl) (Nat.le_of_ble_eq_true rfl) (am_R.post H (fun v g1 hq => ?_))
      obtain ⟨rfl, hw, H⟩ := hq
      change am_R _ _ _ _ _ [] _ _
      refine am_R.next ((hp 101).trans rfl) rfl ?_
      exact am_R.ret ((hp 102).trans rfl) rfl H
  · have H := H.2 (Decidable.not_not.mp c12)
    refine am_R.next ((hp 41).trans rfl) rfl ?_
    refine r_cv (bs := []) (st' := []) ((hp 42).trans rfl) (hw.o (i := 0) (by decide) rfl) rfl rfl (Nat.le_of_ble_eq_true rfl) (Nat.le_of_ble_eq_true rfl) (am_R.post H (fun v g3 hq => ?_))
    obtain ⟨r4, rfl, hw, H⟩ := hq
    change am_R _ _ _ _ _ [.inl r4] _ _
    refine am_R.next (lv' := [some (.inr (.inr ((0 : Nat) : Int))), some (.inl x1), some (.inl x2), some (.inl x3), some (.inl x4), some (.inl r4)]) ((hp 45).trans rfl) rfl ?_
    refine am_R.next ((hp 47).trans rfl) rfl ?_
    refine r_getR ((hp 48).trans rfl) (hw.o (i := 0) (by decide) rfl) (hw.r wr_0_7) ?_
    refine am_R.next ((hp 51).trans rfl) rfl ?_
    refine r_getR ((hp 52).trans rfl) (hw.o (i := 0) (by decide) rfl) (hw.r wr_0_12) ?_
    refine am_R.next ((hp 55).trans rfl) rfl ?_
    refine am_R.next ((hp 57).trans rfl) rfl ?_
    refine r_cv (bs := [.inr (.inr ((24 : Nat) : Int)), .inr (.inl r4)]) (st' := []) ((hp 58).trans rfl) (hw.o (i := 9) (by decide) rfl) rfl rfl (Nat.le_of_ble_eq_true rfl) (Nat.le_of_ble_eq_true rfl) (am_R.post H (fun v g5 hq => ?_))
    obtain ⟨r6, rfl, hw, H⟩ := hq
    change am_R _ _ _ _ _ [.inl r6] _ _
    refine r_if ((hp 61).trans rfl) (fun c11 => ?_) (fun c11 => ?_)
    · have H := H.1 c11
      obtain ⟨y7, ey7⟩ : ∃ z : Int, z = am_w (x4 + 1) := ⟨_, rfl⟩
      have H := H y7 ey7
      refine am_R.next (lv' := [some (.inr (.inr ((0 : Nat) : Int))), some (.inl x1), some (.inl x2), some (.inl x3), some (.inl y7), some (.inl r4)]) (st' := []) (h' := g5) (pc' := 83) ((hp 80).trans rfl) (by rw [ey7]; rfl) ?_
      refine am_R.next ((hp 83).trans rfl) rfl ?_
      exact r_le hs in_147 (le_k (le_k (le_k (le_k (le_k (le_d le_n)))))) H
    · have H := H.2 (Decidable.not_not.mp c11)
      refine am_R.next ((hp 64).trans rfl) rfl ?_
      refine r_getR ((hp 65).trans rfl) (hw.o (i := 0) (by decide) rfl) (hw.r wr_0_7) ?_
      refine am_R.next ((hp 68).trans rfl) rfl ?_
      refine r_getR ((hp 69).trans rfl) (hw.o (i := 0) (by decide) rfl) (hw.r wr_0_12) ?_
      refine am_R.next ((hp 72).trans rfl) rfl ?_
      refine r_cv (bs := [.inr (.inr ((24 : Nat) : Int)), .inl r4]) (st' := []) ((hp 74).trans rfl) (hw.o (i := 9) (by decide) rfl) rfl rfl (Nat.le_of_ble_eq_true rfl) (Nat.le_of_ble_eq_true rfl) (am_R.post H (fun v g8 hq => ?_))
      obtain ⟨rfl, hw, H⟩ := hq
      change am_R _ _ _ _ _ [] _ _
      obtain ⟨y9, ey9⟩ : ∃ z : Int, z = am_w (x3 + 1) := ⟨_, rfl⟩
      have H := H y9 ey9
      refine am_R.next (lv' := [some (.inr (.inr ((0 : Nat) : Int))), some (.inl x1), some (.inl x2), some (.inl y9), some (.inl x4), some (.inl r4)]) (st' := []) (h' := g8) (pc' := 80) ((hp 77).trans rfl) (by rw [ey9]; rfl) ?_
      obtain ⟨y10, ey10⟩ : ∃ z : Int, z = am_w (x4 + 1) := ⟨_, rfl⟩
      have H := H y10 ey10
      refine am_R.next (lv' := [some (.inr (.inr ((0 : Nat) : Int))), some (.inl x1), some (.inl x2), some (.inl y9), some (.inl y10), some (.inl r4)]) (st' := []) (h' := g8) (pc' := 83) ((hp 80).trans rfl) (by rw [ey10]; rfl) ?_
      refine am_R.next ((hp 83).trans rfl) rfl ?_
      exact r_le hs in_147 (le_k (le_k (le_k (le_k (le_k (le_d le_n)))))) H
theorem w_S_draw_0 {scr : Nat × (Nat → Int)} {d : Nat} {h : am_H} {Q : Option am_V → am_H → Prop} {x1 : Int} (hs : am_sc scr) (hw : wf h) (H : ∀ h1 : am_H, h1 = am_put h 0 5 (am_w ((am_w (1103515245 * (h.2.2.2 0 5))) + 12345)) → (am_R (am_prog scr) d f_S_rest 0 [some (.inl (am_ushr (h1.2.2.2 0 5) 16)), some (.inl x1)] [] h1 (fun v g2 => ∃ r3 : Int, v = some (.inl r3) ∧ wf g2 ∧ (Q (some (.inl r3)) g2)))) : am_R (am_prog scr) (d + 1) f_S_draw 0 [some (.inr (.inr ((0 : Nat) : Int))), some (.inl x1)] [] h Q := by
  have hp : ∀ k, (am_prog scr).1 f_S_draw k = c_S_draw k := fun _ => rfl
  refine am_R.next ((hp 0).trans rfl) rfl ?_
  refine am_R.next ((hp 1).trans rfl) rfl ?_
  refine am_R.next ((hp 3).trans rfl) rfl ?_
  refine r_getI ((hp 4).trans rfl) (hw.o (i := 0) (by decide) rfl) ?_
  refine am_R.next ((hp 7).trans rfl) rfl ?_
  refine am_R.next ((hp 8).trans rfl) rfl ?_
  refine am_R.next ((hp 11).trans rfl) rfl ?_
  obtain ⟨h1, eh1⟩ : ∃ z : am_H, z = am_put h 0 5 (am_w ((am_w (1103515245 * (h.2.2.2 0 5))) + 12345)) := ⟨_, rfl⟩
  have H := H h1 eh1
  refine r_putI ((hp 12).trans rfl) (hw.o (i := 0) (by decide) rfl) ?_
  have hw : wf h1 := by rw [eh1]; exact hw.put np_0_5
  change am_R _ _ _ _ _ _ (am_put h 0 5 (am_w ((am_w (1103515245 * (h.2.2.2 0 5))) + 12345))) _
  rw [← eh1]
  refine am_R.next ((hp 15).trans rfl) rfl ?_
  refine r_getI ((hp 16).trans rfl) (hw.o (i := 0) (by decide) rfl) ?_
  refine am_R.next ((hp 19).trans rfl) rfl ?_
  refine am_R.next ((hp 21).trans rfl) rfl ?_
  refine am_R.next ((hp 22).trans rfl) rfl ?_
  refine r_cs (as := [.inl (am_ushr (h1.2.2.2 0 5) 16), .inl x1]) (st' := []) ((hp 23).trans rfl) rfl rfl (Nat.le_of_ble_eq_true rfl) (Nat.le_of_ble_eq_true rfl) (am_R.post H (fun v g2 hq => ?_))
  obtain ⟨r3, rfl, hw, H⟩ := hq
  change am_R _ _ _ _ _ [.inl r3] _ _
  exact am_R.ret ((hp 26).trans rfl) rfl H
theorem w_S_drawDeed_0 {scr : Nat × (Nat → Int)} {d : Nat} {h : am_H} {Q : Option am_V → am_H → Prop} (hs : am_sc scr) (hw : wf h) (H : am_R (am_prog scr) d f_S_draw 0 [some (.inr (.inr ((0 : Nat) : Int))), some (.inl 6)] [] h (fun v g1 => ∃ r2 : Int, v = some (.inl r2) ∧ wf g1 ∧ ((¬ (r2 < 2) → ((¬ (r2 = 2) → ((¬ (r2 = 3) → (am_R (am_prog scr) d f_S_draw 0 [some (.inr (.inr ((0 : Nat) : Int))), some (.inl 6)] [] g1 (fun v g3 => ∃ r4 : Int, v = some (.inl r4) ∧ wf g3 ∧ ((¬ (r2 = 4) → (am_R (am_prog scr) d f_S_draw 0 [some (.inr (.inr ((0 : Nat) : Int))), some (.inl 10)] [] g3 (fun v g5 => ∃ r6 : Int, v = some (.inl r6) ∧ wf g5 ∧ (Q (some (.inl (am_w ((am_w (200 + (am_w (10 * r4)))) + r6)))) g5)))) ∧ (r2 = 4 → (am_R (am_prog scr) d f_S_draw 0 [some (.inr (.inr ((0 : Nat) : Int))), some (.inl 6)] [] g3 (fun v g7 => ∃ r8 : Int, v = some (.inl r8) ∧ wf g7 ∧ (Q (some (.inl (am_w ((am_w (100 + (am_w (10 * r4)))) + r8)))) g7)))))))) ∧ (r2 = 3 → (am_R (am_prog scr) d f_S_draw 0 [some (.inr (.inr ((0 : Nat) : Int))), some (.inl 10)] [] g1 (fun v g10 => ∃ r11 : Int, v = some (.inl r11) ∧ wf g10 ∧ (Q (some (.inl (am_w (10 + r11)))) g10)))))) ∧ (r2 = 2 → (am_R (am_prog scr) d f_S_draw 0 [some (.inr (.inr ((0 : Nat) : Int))), some (.inl 7)] [] g1 (fun v g13 => ∃ r14 : Int, v = some (.inl r14) ∧ wf g13 ∧ (Q (some (.inl r14)) g13)))))) ∧ (r2 < 2 → (Q (some (.inl 0)) g1))))) : am_R (am_prog scr) (d + 1) f_S_drawDeed 0 [some (.inr (.inr ((0 : Nat) : Int))), none, none] [] h Q := by
  have hp : ∀ k, (am_prog scr).1 f_S_drawDeed k = c_S_drawDeed k := fun _ => rfl
  refine am_R.next ((hp 0).trans rfl) rfl ?_
  refine am_R.next ((hp 1).trans rfl) rfl ?_
  refine r_cv (bs := [.inl 6]) (st' := []) ((hp 3).trans rfl) (hw.o (i := 0) (by decide) rfl) rfl rfl (Nat.le_of_ble_eq_true rfl) (Nat.le_of_ble_eq_true rfl) (am_R.post H (fun v g1 hq => ?_))
  obtain ⟨r2, rfl, hw, H⟩ := hq
  change am_R _ _ _ _ _ [.inl r2] _ _
  refine am_R.next (lv' := [some (.inr (.inr ((0 : Nat) : Int))), some (.inl r2), none]) ((hp 6).trans rfl) rfl ?_
  refine am_R.next ((hp 7).trans rfl) rfl ?_
  refine am_R.next ((hp 8).trans rfl) rfl ?_
  refine r_ic ((hp 9).trans rfl) (fun c16 => ?_) (fun c16 => ?_)
  · have H := H.1 c16
    refine am_R.next ((hp 14).trans rfl) rfl ?_
    refine am_R.next ((hp 15).trans rfl) rfl ?_
    refine r_ic ((hp 16).trans rfl) (fun c15 => ?_) (fun c15 => ?_)
    · have H := H.1 c15
      refine am_R.next ((hp 26).trans rfl) rfl ?_
      refine am_R.next ((hp 27).trans rfl) rfl ?_
      refine r_ic ((hp 28).trans rfl) (fun c12 => ?_) (fun c12 => ?_)
      · have H := H.1 c12
        refine am_R.next ((hp 41).trans rfl) rfl ?_
        refine am_R.next ((hp 42).trans rfl) rfl ?_
        refine r_cv (bs := [.inl 6]) (st' := []) ((hp 44).trans rfl) (hw.o (i := 0) (by decide) rfl) rfl rfl (Nat.le_of_ble_eq_true rfl) (Nat.le_of_ble_eq_true rfl) (am_R.post H (fun v g3 hq => ?_))
        obtain ⟨r4, rfl, hw, H⟩ := hq
        change am_R _ _ _ _ _ [.inl r4] _ _
        refine am_R.next (lv' := [some (.inr (.inr ((0 : Nat) : Int))), some (.inl r2), some (.inl r4)]) ((hp 47).trans rfl) rfl ?_
        refine am_R.next ((hp 48).trans rfl) rfl ?_
        refine am_R.next ((hp 49).trans rfl) rfl ?_
        refine r_ic ((hp 50).trans rfl) (fun c9 => ?_) (fun c9 => ?_)
        · have H := H.1 c9
          refine am_R.next ((hp 70).trans rfl) rfl ?_
          refine am_R.next ((hp 73).trans rfl) rfl ?_
          refine am_R.next ((hp 75).trans rfl) rfl ?_
          refine am_R.next ((hp 76).trans rfl) rfl ?_
          refine am_R.next ((hp 77).trans rfl) rfl ?_
          refine am_R.next ((hp 78).trans rfl) rfl ?_
          refine am_R.next ((hp 79).trans rfl) rfl ?_
          refine r_cv (bs := [.inl 10]) (st' := [.inl (am_w (200 + (am_w (10 * r4))))]) ((hp 81).trans rfl) (hw.o (i := 0) (by decide) rfl) rfl rfl (Nat.le_of_ble_eq_true rfl) (Nat.le_of_ble_eq_true rfl) (am_R.post H (fun v g5 hq => ?_))
          obtain ⟨r6, rfl, hw, H⟩ := hq
          change am_R _ _ _ _ _ [.inl r6, .inl (am_w (200 + (am_w (10 * r4))))] _ _
          refine am_R.next ((hp 84).trans rfl) rfl ?_
          exact am_R.ret ((hp 85).trans rfl) rfl H
        · have H := H.2 (Decidable.not_not.mp c9)
          refine am_R.next ((hp 53).trans rfl) rfl ?_
          refine am_R.next ((hp 55).trans rfl) rfl ?_
          refine am_R.next ((hp 57).trans rfl) rfl ?_
          refine am_R.next ((hp 58).trans rfl) rfl ?_
          refine am_R.next ((hp 59).trans rfl) rfl ?_
          refine am_R.next ((hp 60).trans rfl) rfl ?_
          refine am_R.next ((hp 61).trans rfl) rfl ?_
          refine r_cv (bs := [.inl 6]) (st' := [.inl (am_w (100 + (am_w (10 * r4))))]) ((hp 63).trans rfl) (hw.o (i := 0) (by decide) rfl) rfl rfl (Nat.le_of_ble_eq_true rfl) (Nat.le_of_ble_eq_true rfl) (am_R.post H (fun v g7 hq => ?_))
          obtain ⟨r8, rfl, hw, H⟩ := hq
          change am_R _ _ _ _ _ [.inl r8, .inl (am_w (100 + (am_w (10 * r4))))] _ _
          refine am_R.next ((hp 66).trans rfl) rfl ?_
          refine am_R.next ((hp 67).trans rfl) rfl ?_
          exact am_R.ret ((hp 85).trans rfl) rfl H
      · have H := H.2 (Decidable.not_not.mp c12)
        refine am_R.next ((hp 31).trans rfl) rfl ?_
        refine am_R.next ((hp 33).trans rfl) rfl ?_
        refine am_R.next ((hp 34).trans rfl) rfl ?_
        refine r_cv (bs := [.inl 10]) (st' := [.inl 10]) ((hp 36).trans rfl) (hw.o (i := 0) (by decide) rfl) rfl rfl (Nat.le_of_ble_eq_true rfl) (Nat.le_of_ble_eq_true rfl) (am_R.post H (fun v g10 hq => ?_))
        obtain ⟨r11, rfl, hw, H⟩ := hq
        change am_R _ _ _ _ _ [.inl r11, .inl 10] _ _
        refine am_R.next ((hp 39).trans rfl) rfl ?_
        exact am_R.ret ((hp 40).trans rfl) rfl H
    · have H := H.2 (Decidable.not_not.mp c15)
      refine am_R.next ((hp 19).trans rfl) rfl ?_
      refine am_R.next ((hp 20).trans rfl) rfl ?_
      refine r_cv (bs := [.inl 7]) (st' := []) ((hp 22).trans rfl) (hw.o (i := 0) (by decide) rfl) rfl rfl (Nat.le_of_ble_eq_true rfl) (Nat.le_of_ble_eq_true rfl) (am_R.post H (fun v g13 hq => ?_))
      obtain ⟨r14, rfl, hw, H⟩ := hq
      change am_R _ _ _ _ _ [.inl r14] _ _
      exact am_R.ret ((hp 25).trans rfl) rfl H
  · have H := H.2 (Decidable.not_not.mp c16)
    refine am_R.next ((hp 12).trans rfl) rfl ?_
    exact am_R.ret ((hp 13).trans rfl) rfl H
theorem w_S_rest_0 {scr : Nat × (Nat → Int)} {d : Nat} {h : am_H} {Q : Option am_V → am_H → Prop} {x0 x1 : Int} (hs : am_sc scr) (hw : wf h) (H : (¬ (x1 < 1) → (am_R (am_prog scr) d f_jM_floorMod 0 [some (.inl x0), some (.inl x1), none] [] h (fun v g1 => ∃ r2 : Int, v = some (.inl r2) ∧ wf g1 ∧ (Q (some (.inl r2)) g1)))) ∧ (x1 < 1 → (Q (some (.inl 0)) h))) : am_R (am_prog scr) (d + 1) f_S_rest 0 [some (.inl x0), some (.inl x1)] [] h Q := by
  have hp : ∀ k, (am_prog scr).1 f_S_rest k = c_S_rest k := fun _ => rfl
  refine am_R.next ((hp 0).trans rfl) rfl ?_
  refine am_R.next ((hp 1).trans rfl) rfl ?_
  refine r_ic ((hp 2).trans rfl) (fun c3 => ?_) (fun c3 => ?_)
  · have H := H.1 c3
    refine am_R.next ((hp 9).trans rfl) rfl ?_
    refine am_R.next ((hp 10).trans rfl) rfl ?_
    refine r_cs (as := [.inl x0, .inl x1]) (st' := []) ((hp 11).trans rfl) rfl rfl (Nat.le_of_ble_eq_true rfl) (Nat.le_of_ble_eq_true rfl) (am_R.post H (fun v g1 hq => ?_))
    obtain ⟨r2, rfl, hw, H⟩ := hq
    change am_R _ _ _ _ _ [.inl r2] _ _
    exact am_R.ret ((hp 14).trans rfl) rfl H
  · have H := H.2 (Decidable.not_not.mp c3)
    refine am_R.next ((hp 5).trans rfl) rfl ?_
    refine am_R.next ((hp 6).trans rfl) rfl ?_
    exact am_R.ret ((hp 14).trans rfl) rfl H
theorem w_S_enactAll_0 {scr : Nat × (Nat → Int)} {d : Nat} {h : am_H} {Q : Option am_V → am_H → Prop} {p1 : Nat} (hp1 : p1 ∈ PL) {t2 : Nat} (ht2 : t2 ∈ TR) (hs : am_sc scr) (hw : wf h) (H : am_R (am_prog scr) (d + 1) f_S_enactAll 2 [some (.inr (.inr ((0 : Nat) : Int))), some (.inr (.inr ((p1 : Nat) : Int))), some (.inr (.inr ((t2 : Nat) : Int))), some (.inl 0)] [] h Q) : am_R (am_prog scr) (d + 1) f_S_enactAll 0 [some (.inr (.inr ((0 : Nat) : Int))), some (.inr (.inr ((p1 : Nat) : Int))), some (.inr (.inr ((t2 : Nat) : Int))), none] [] h Q := by
  have hp : ∀ k, (am_prog scr).1 f_S_enactAll k = c_S_enactAll k := fun _ => rfl
  refine am_R.next ((hp 0).trans rfl) rfl ?_
  refine am_R.next (lv' := [some (.inr (.inr ((0 : Nat) : Int))), some (.inr (.inr ((p1 : Nat) : Int))), some (.inr (.inr ((t2 : Nat) : Int))), some (.inl 0)]) ((hp 1).trans rfl) rfl ?_
  exact H
theorem w_S_enactAll_2 {scr : Nat × (Nat → Int)} {d : Nat} {h : am_H} {Q : Option am_V → am_H → Prop} {x3 : Int} {p1 : Nat} (hp1 : p1 ∈ PL) {t2 : Nat} (ht2 : t2 ∈ TR) (hs : am_sc scr) (hw : wf h) (H : (¬ (x3 < (h.2.2.2 t2 2)) → (Q (some (.inl (h.2.2.2 t2 2))) h)) ∧ (x3 < (h.2.2.2 t2 2) → ((0 ≤ x3 ∧ x3 < 40) ∧ (am_R (am_prog scr) d f_Stage_whyNot 0 [some (.inr (.inr ((9 : Nat) : Int))), some (.inr (.inr ((p1 : Nat) : Int))), some (.inr (.inl (h.2.2.2 (t2 + 1) x3.toNat))), none, none, none] [] h (fun v g2 => ∃ r3 : Int, v = some (.inl r3) ∧ wf g2 ∧ ((r3 = 0 → ((0 ≤ x3 ∧ x3 < 40) ∧ (am_R (am_prog scr) d f_Stage_enact 0 [some (.inr (.inr ((9 : Nat) : Int))), some (.inr (.inr ((p1 : Nat) : Int))), some (.inl (am_w (g2.2.2.2 (t2 + 1) x3.toNat)))] [] g2 (fun v g5 => v = none ∧ wf g5 ∧ (∀ y6 : Int, y6 = am_w (x3 + 1) → (am_R (am_prog scr) (d + 1) f_S_enactAll 2 [some (.inr (.inr ((0 : Nat) : Int))), some (.inr (.inr ((p1 : Nat) : Int))), some (.inr (.inr ((t2 : Nat) : Int))), some (.inl y6)] [] g5 Q)))))) ∧ (¬ (r3 = 0) → (Q (some (.inl x3)) g2)))))))) : am_R (am_prog scr) (d + 1) f_S_enactAll 2 [some (.inr (.inr ((0 : Nat) : Int))), some (.inr (.inr ((p1 : Nat) : Int))), some (.inr (.inr ((t2 : Nat) : Int))), some (.inl x3)] [] h Q := by
  have hp : ∀ k, (am_prog scr).1 f_S_enactAll k = c_S_enactAll k := fun _ => rfl
  refine am_R.next ((hp 2).trans rfl) rfl ?_
  refine am_R.next ((hp 3).trans rfl) rfl ?_
  refine r_getI ((hp 4).trans rfl) (tr_o ht2 hw) ?_
  refine r_ic ((hp 7).trans rfl) (fun c8 => ?_) (fun c8 => ?_)
  · have H := H.1 c8
    refine am_R.next ((hp 50).trans rfl) rfl ?_
    refine r_getI ((hp 51).trans rfl) (tr_o ht2 hw) ?_
    exact am_R.ret ((hp 54).trans rfl) rfl H
  · have H := H.2 (Decidable.not_not.mp c8)
    refine am_R.next ((hp 10).trans rfl) rfl ?_
    refine r_getR ((hp 11).trans rfl) (hw.o (i := 0) (by decide) rfl) (hw.r wr_0_7) ?_
    refine am_R.next ((hp 14).trans rfl) rfl ?_
    refine am_R.next ((hp 15).trans rfl) rfl ?_
    refine r_getR ((hp 16).trans rfl) (tr_o ht2 hw) (tr_h ht2 hw) ?_
    refine am_R.next ((hp 19).trans rfl) rfl ?_
    obtain ⟨c1, H⟩ := H
    refine r_lald ((hp 20).trans rfl) (tr_ha ht2 hw c1.1 c1.2) ?_
    refine r_cv (bs := [.inr (.inr ((p1 : Nat) : Int)), .inr (.inl (h.2.2.2 (t2 + 1) x3.toNat))]) (st' := []) ((hp 21).trans rfl) (hw.o (i := 9) (by decide) rfl) rfl rfl (Nat.le_of_ble_eq_true rfl) (Nat.le_of_ble_eq_true rfl) (am_R.post H (fun v g2 hq => ?_))
    obtain ⟨r3, rfl, hw, H⟩ := hq
    change am_R _ _ _ _ _ [.inl r3] _ _
    refine r_if ((hp 24).trans rfl) (fun c7 => ?_) (fun c7 => ?_)
    · have H := H.1 c7
      refine am_R.next ((hp 29).trans rfl) rfl ?_
      refine r_getR ((hp 30).trans rfl) (hw.o (i := 0) (by decide) rfl) (hw.r wr_0_7) ?_
      refine am_R.next ((hp 33).trans rfl) rfl ?_
      refine am_R.next ((hp 34).trans rfl) rfl ?_
      refine r_getR ((hp 35).trans rfl) (tr_o ht2 hw) (tr_h ht2 hw) ?_
      refine am_R.next ((hp 38).trans rfl) rfl ?_
      obtain ⟨c4, H⟩ := H
      refine r_lald ((hp 39).trans rfl) (tr_ha ht2 hw c4.1 c4.2) ?_
      refine am_R.next ((hp 40).trans rfl) rfl ?_
      refine r_cv (bs := [.inr (.inr ((p1 : Nat) : Int)), .inl (am_w (g2.2.2.2 (t2 + 1) x3.toNat))]) (st' := []) ((hp 41).trans rfl) (hw.o (i := 9) (by decide) rfl) rfl rfl (Nat.le_of_ble_eq_true rfl) (Nat.le_of_ble_eq_true rfl) (am_R.post H (fun v g5 hq => ?_))
      obtain ⟨rfl, hw, H⟩ := hq
      change am_R _ _ _ _ _ [] _ _
      obtain ⟨y6, ey6⟩ : ∃ z : Int, z = am_w (x3 + 1) := ⟨_, rfl⟩
      have H := H y6 ey6
      refine am_R.next (lv' := [some (.inr (.inr ((0 : Nat) : Int))), some (.inr (.inr ((p1 : Nat) : Int))), some (.inr (.inr ((t2 : Nat) : Int))), some (.inl y6)]) (st' := []) (h' := g5) (pc' := 47) ((hp 44).trans rfl) (by rw [ey6]; rfl) ?_
      refine am_R.next ((hp 47).trans rfl) rfl ?_
      exact H
    · have H := H.2 c7
      refine am_R.next ((hp 27).trans rfl) rfl ?_
      exact am_R.ret ((hp 28).trans rfl) rfl H
theorem w_S_trayRefusal_0 {scr : Nat × (Nat → Int)} {d : Nat} {h : am_H} {Q : Option am_V → am_H → Prop} {x1 : Int} (hs : am_sc scr) (hw : wf h) (H : (x1 < 0 → (Q (some (.inl (-2))) h)) ∧ (¬ (x1 < 0) → ((x1 < 4 → ((0 ≤ x1 ∧ x1 < 4) ∧ (((h.2.2.2 (95 + 2 * x1.toNat) 0) = 0 → (Q (some (.inl 0)) h)) ∧ (¬ ((h.2.2.2 (95 + 2 * x1.toNat) 0) = 0) → (Q (some (.inl (-6))) h))))) ∧ (¬ (x1 < 4) → (Q (some (.inl (-2))) h))))) : am_R (am_prog scr) d f_S_trayRefusal 0 [some (.inr (.inr ((0 : Nat) : Int))), some (.inl x1)] [] h Q := by
  have hp : ∀ k, (am_prog scr).1 f_S_trayRefusal k = c_S_trayRefusal k := fun _ => rfl
  refine am_R.next ((hp 0).trans rfl) rfl ?_
  refine r_if ((hp 1).trans rfl) (fun c4 => ?_) (fun c4 => ?_)
  · have H := H.1 c4
    refine am_R.next ((hp 13).trans rfl) rfl ?_
    exact am_R.ret ((hp 15).trans rfl) rfl H
  · have H := H.2 c4
    refine am_R.next ((hp 4).trans rfl) rfl ?_
    refine am_R.next ((hp 5).trans rfl) rfl ?_
    refine r_getR ((hp 6).trans rfl) (hw.o (i := 0) (by decide) rfl) (hw.r wr_0_15) ?_
    refine r_alen (n := 4) ((hp 9).trans rfl) (hw.l (i := 17) (by decide) rfl (by decide)) (congrArg Prod.snd (hw.k (i := 17) (x := (6, 4)) (by decide) rfl)) ?_
    refine r_ic ((hp 10).trans rfl) (fun c3 => ?_) (fun c3 => ?_)
    · have H := H.1 c3
      refine am_R.next ((hp 16).trans rfl) rfl ?_
      refine r_getR ((hp 17).trans rfl) (hw.o (i := 0) (by decide) rfl) (hw.r wr_0_15) ?_
      refine am_R.next ((hp 20).trans rfl) rfl ?_
      obtain ⟨c1, H⟩ := H
      refine r_aald ((hp 21).trans rfl) (hw.a (i := 17) (by decide) rfl c1.1 c1.2) (tr_all hw c1).2 ?_
      refine r_getI ((hp 22).trans rfl) (tr_o (tr_all hw c1).1 hw) ?_
      refine r_if ((hp 25).trans rfl) (fun c2 => ?_) (fun c2 => ?_)
      · have H := H.1 c2
        refine am_R.next ((hp 33).trans rfl) rfl ?_
        exact am_R.ret ((hp 34).trans rfl) rfl H
      · have H := H.2 c2
        refine am_R.next ((hp 28).trans rfl) rfl ?_
        refine am_R.next ((hp 30).trans rfl) rfl ?_
        exact am_R.ret ((hp 34).trans rfl) rfl H
    · have H := H.2 c3
      refine am_R.next ((hp 13).trans rfl) rfl ?_
      exact am_R.ret ((hp 15).trans rfl) rfl H
theorem w_S_goes_0 {scr : Nat × (Nat → Int)} {d : Nat} {h : am_H} {Q : Option am_V → am_H → Prop} {x1 : Int} (hs : am_sc scr) (hw : wf h) (H : (x1 < 0 → (Q (some (.inl (-2))) h)) ∧ (¬ (x1 < 0) → ((x1 ≤ 1 → (am_R (am_prog scr) d f_Graph_prepare 0 [some (.inr (.inr ((30 : Nat) : Int))), some (.inr (.inr ((24 : Nat) : Int))), none, none, none] [] h (fun v g1 => v = none ∧ wf g1 ∧ (am_R (am_prog scr) d f_Graph_leaveAlone 0 [some (.inr (.inr ((30 : Nat) : Int))), none] [] g1 (fun v g2 => v = none ∧ wf g2 ∧ (((g2.2.2.2 30 12) = (-1) → ((¬ (x1 = 1) → (((0 : Int) = 0 → ((0 ≤ (g2.2.2.2 30 11) ∧ (g2.2.2.2 30 11) < 181) ∧ (am_R (am_prog scr) d f_Graph_isEnd 0 [some (.inr (.inr ((30 : Nat) : Int))), some (.inl (g2.2.2.2 38 ((g2.2.2.2 30 11).toNat)))] [] g2 (fun v g4 => ∃ r5 : Int, v = some (.inl r5) ∧ wf g4 ∧ ((r5 = 0 → (Q (some (.inl 1)) g4)) ∧ (¬ (r5 = 0) → (Q (some (.inl 0)) g4))))))) ∧ (¬ ((0 : Int) = 0) → (Q (some (.inl 2)) g2)))) ∧ (x1 = 1 → (((0 : Int) = 0 → (Q (some (.inl (g2.2.2.2 30 11))) g2)) ∧ (¬ ((0 : Int) = 0) → (Q (some (.inl (-1))) g2)))))) ∧ (¬ ((g2.2.2.2 30 12) = (-1)) → ((¬ (x1 = 1) → (((1 : Int) = 0 → ((0 ≤ (g2.2.2.2 30 11) ∧ (g2.2.2.2 30 11) < 181) ∧ (am_R (am_prog scr) d f_Graph_isEnd 0 [some (.inr (.inr ((30 : Nat) : Int))), some (.inl (g2.2.2.2 38 ((g2.2.2.2 30 11).toNat)))] [] g2 (fun v g11 => ∃ r12 : Int, v = some (.inl r12) ∧ wf g11 ∧ ((r12 = 0 → (Q (some (.inl 1)) g11)) ∧ (¬ (r12 = 0) → (Q (some (.inl 0)) g11))))))) ∧ (¬ ((1 : Int) = 0) → (Q (some (.inl 2)) g2)))) ∧ (x1 = 1 → (((1 : Int) = 0 → (Q (some (.inl (g2.2.2.2 30 11))) g2)) ∧ (¬ ((1 : Int) = 0) → (Q (some (.inl (-1))) g2)))))))))))) ∧ (¬ (x1 ≤ 1) → (Q (some (.inl (-2))) h))))) : am_R (am_prog scr) (d + 1) f_S_goes 0 [some (.inr (.inr ((0 : Nat) : Int))), some (.inl x1), none] [] h Q := by
  have hp : ∀ k, (am_prog scr).1 f_S_goes k = c_S_goes k := fun _ => rfl
  refine am_R.next ((hp 0).trans rfl) rfl ?_
  refine r_if ((hp 1).trans rfl) (fun c19 => ?_) (fun c19 => ?_)
  · have H := H.1 c19
    refine am_R.next ((hp 9).trans rfl) rfl ?_
    exact am_R.ret ((hp 11).trans rfl) rfl H
  · have H := H.2 c19
    refine am_R.next ((hp 4).trans rfl) rfl ?_
    refine am_R.next ((hp 5).trans rfl) rfl ?_
    refine r_ic ((hp 6).trans rfl) (fun c18 => ?_) (fun c18 => ?_)
    · have H := H.1 c18
      refine am_R.next ((hp 12).trans rfl) rfl ?_
      refine r_getR ((hp 13).trans rfl) (hw.o (i := 0) (by decide) rfl) (hw.r wr_0_8) ?_
      refine am_R.next ((hp 16).trans rfl) rfl ?_
      refine r_getR ((hp 17).trans rfl) (hw.o (i := 0) (by decide) rfl) (hw.r wr_0_12) ?_
      refine r_cv (bs := [.inr (.inr ((24 : Nat) : Int))]) (st' := []) ((hp 20).trans rfl) (hw.o (i := 30) (by decide) rfl) rfl rfl (Nat.le_of_ble_eq_true rfl) (Nat.le_of_ble_eq_true rfl) (am_R.post H (fun v g1 hq => ?_))
      obtain ⟨rfl, hw, H⟩ := hq
      change am_R _ _ _ _ _ [] _ _
      refine am_R.next ((hp 23).trans rfl) rfl ?_
      refine r_getR ((hp 24).trans rfl) (hw.o (i := 0) (by decide) rfl) (hw.r wr_0_8) ?_
      refine r_cv (bs := []) (st' := []) ((hp 27).trans rfl) (hw.o (i := 30) (by decide) rfl) rfl rfl (Nat.le_of_ble_eq_true rfl) (Nat.le_of_ble_eq_true rfl) (am_R.post H (fun v g2 hq => ?_))
      obtain ⟨rfl, hw, H⟩ := hq
      change am_R _ _ _ _ _ [] _ _
      refine am_R.next ((hp 30).trans rfl) rfl ?_
      refine r_getR ((hp 31).trans rfl) (hw.o (i := 0) (by decide) rfl) (hw.r wr_0_8) ?_
      refine r_getI ((hp 34).trans rfl) (hw.o (i := 30) (by decide) rfl) ?_
      refine am_R.next ((hp 37).trans rfl) rfl ?_
      refine r_ic ((hp 38).trans rfl) (fun c17 => ?_) (fun c17 => ?_)
      · have H := H.1 c17
        refine am_R.next ((hp 45).trans rfl) rfl ?_
        refine am_R.next (lv' := [some (.inr (.inr ((0 : Nat) : Int))), some (.inl x1), some (.inl 0)]) ((hp 46).trans rfl) rfl ?_
        refine am_R.next ((hp 47).trans rfl) rfl ?_
        refine am_R.next ((hp 48).trans rfl) rfl ?_
        refine r_ic ((hp 49).trans rfl) (fun c9 => ?_) (fun c9 => ?_)
        · have H := H.1 c9
          refine am_R.next ((hp 68).trans rfl) rfl ?_
          refine r_if ((hp 69).trans rfl) (fun c7 => ?_) (fun c7 => ?_)
          · have H := H.1 c7
            refine am_R.next ((hp 74).trans rfl) rfl ?_
            refine r_getR ((hp 75).trans rfl) (hw.o (i := 0) (by decide) rfl) (hw.r wr_0_8) ?_
            refine am_R.next ((hp 78).trans rfl) rfl ?_
            refine r_getR ((hp 79).trans rfl) (hw.o (i := 0) (by decide) rfl) (hw.r wr_0_8) ?_
            refine r_getR ((hp 82).trans rfl) (hw.o (i := 30) (by decide) rfl) (hw.r wr_30_9) ?_
            refine am_R.next ((hp 85).trans rfl) rfl ?_
            refine r_getR ((hp 86).trans rfl) (hw.o (i := 0) (by decide) rfl) (hw.r wr_0_8) ?_
            refine r_getI ((hp 89).trans rfl) (hw.o (i := 30) (by decide) rfl) ?_
            obtain ⟨c3, H⟩ := H
            refine r_iald ((hp 92).trans rfl) (hw.a (i := 38) (by decide) rfl c3.1 c3.2) ?_
            refine r_cv (bs := [.inl (g2.2.2.2 38 ((g2.2.2.2 30 11).toNat))]) (st' := []) ((hp 93).trans rfl) (hw.o (i := 30) (by decide) rfl) rfl rfl (Nat.le_of_ble_eq_true rfl) (Nat.le_of_ble_eq_true rfl) (am_R.post H (fun v g4 hq => ?_))
            obtain ⟨r5, rfl, hw, H⟩ := hq
            change am_R _ _ _ _ _ [.inl r5] _ _
            refine r_if ((hp 96).trans rfl) (fun c6 => ?_) (fun c6 => ?_)
            · have H := H.1 c6
              refine am_R.next ((hp 103).trans rfl) rfl ?_
              exact am_R.ret ((hp 104).trans rfl) rfl H
            · have H := H.2 c6
              refine am_R.next ((hp 99).trans rfl) rfl ?_
              refine am_R.next ((hp 100).trans rfl) rfl ?_
              exact am_R.ret ((hp 104).trans rfl) rfl H
          · have H := H.2 c7
            refine am_R.next ((hp 72).trans rfl) rfl ?_
            exact am_R.ret ((hp 73).trans rfl) rfl H
        · have H := H.2 (Decidable.not_not.mp c9)
          refine am_R.next ((hp 52).trans rfl) rfl ?_
          refine r_if ((hp 53).trans rfl) (fun c8 => ?_) (fun c8 => ?_)
          · have H := H.1 c8
            refine am_R.next ((hp 60).trans rfl) rfl ?_
            refine r_getR ((hp 61).trans rfl) (hw.o (i := 0) (by decide) rfl) (hw.r wr_0_8) ?_
            refine r_getI ((hp 64).trans rfl) (hw.o (i := 30) (by decide) rfl) ?_
            exact am_R.ret ((hp 67).trans rfl) rfl H
          · have H := H.2 c8
            refine am_R.next ((hp 56).trans rfl) rfl ?_
            refine am_R.next ((hp 57).trans rfl) rfl ?_
            exact am_R.ret ((hp 67).trans rfl) rfl H
      · have H := H.2 c17
        refine am_R.next ((hp 41).trans rfl) rfl ?_
        refine am_R.next ((hp 42).trans rfl) rfl ?_
        refine am_R.next (lv' := [some (.inr (.inr ((0 : Nat) : Int))), some (.inl x1), some (.inl 1)]) ((hp 46).trans rfl) rfl ?_
        refine am_R.next ((hp 47).trans rfl) rfl ?_
        refine am_R.next ((hp 48).trans rfl) rfl ?_
        refine r_ic ((hp 49).trans rfl) (fun c16 => ?_) (fun c16 => ?_)
        · have H := H.1 c16
          refine am_R.next ((hp 68).trans rfl) rfl ?_
          refine r_if ((hp 69).trans rfl) (fun c14 => ?_) (fun c14 => ?_)
          · have H := H.1 c14
            refine am_R.next ((hp 74).trans rfl) rfl ?_
            refine r_getR ((hp 75).trans rfl) (hw.o (i := 0) (by decide) rfl) (hw.r wr_0_8) ?_
            refine am_R.next ((hp 78).trans rfl) rfl ?_
            refine r_getR ((hp 79).trans rfl) (hw.o (i := 0) (by decide) rfl) (hw.r wr_0_8) ?_
            refine r_getR ((hp 82).trans rfl) (hw.o (i := 30) (by decide) rfl) (hw.r wr_30_9) ?_
            refine am_R.next ((hp 85).trans rfl) rfl ?_
            refine r_getR ((hp 86).trans rfl) (hw.o (i := 0) (by decide) rfl) (hw.r wr_0_8) ?_
            refine r_getI ((hp 89).trans rfl) (hw.o (i := 30) (by decide) rfl) ?_
            obtain ⟨c10, H⟩ := H
            refine r_iald ((hp 92).trans rfl) (hw.a (i := 38) (by decide) rfl c10.1 c10.2) ?_
            refine r_cv (bs := [.inl (g2.2.2.2 38 ((g2.2.2.2 30 11).toNat))]) (st' := []) ((hp 93).trans rfl) (hw.o (i := 30) (by decide) rfl) rfl rfl (Nat.le_of_ble_eq_true rfl) (Nat.le_of_ble_eq_true rfl) (am_R.post H (fun v g11 hq => ?_))
            obtain ⟨r12, rfl, hw, H⟩ := hq
            change am_R _ _ _ _ _ [.inl r12] _ _
            refine r_if ((hp 96).trans rfl) (fun c13 => ?_) (fun c13 => ?_)
            · have H := H.1 c13
              refine am_R.next ((hp 103).trans rfl) rfl ?_
              exact am_R.ret ((hp 104).trans rfl) rfl H
            · have H := H.2 c13
              refine am_R.next ((hp 99).trans rfl) rfl ?_
              refine am_R.next ((hp 100).trans rfl) rfl ?_
              exact am_R.ret ((hp 104).trans rfl) rfl H
          · have H := H.2 c14
            refine am_R.next ((hp 72).trans rfl) rfl ?_
            exact am_R.ret ((hp 73).trans rfl) rfl H
        · have H := H.2 (Decidable.not_not.mp c16)
          refine am_R.next ((hp 52).trans rfl) rfl ?_
          refine r_if ((hp 53).trans rfl) (fun c15 => ?_) (fun c15 => ?_)
          · have H := H.1 c15
            refine am_R.next ((hp 60).trans rfl) rfl ?_
            refine r_getR ((hp 61).trans rfl) (hw.o (i := 0) (by decide) rfl) (hw.r wr_0_8) ?_
            refine r_getI ((hp 64).trans rfl) (hw.o (i := 30) (by decide) rfl) ?_
            exact am_R.ret ((hp 67).trans rfl) rfl H
          · have H := H.2 c15
            refine am_R.next ((hp 56).trans rfl) rfl ?_
            refine am_R.next ((hp 57).trans rfl) rfl ?_
            exact am_R.ret ((hp 67).trans rfl) rfl H
    · have H := H.2 c18
      refine am_R.next ((hp 9).trans rfl) rfl ?_
      exact am_R.ret ((hp 11).trans rfl) rfl H
theorem w_S_lies_0 {scr : Nat × (Nat → Int)} {d : Nat} {h : am_H} {Q : Option am_V → am_H → Prop} {x1 : Int} (hs : am_sc scr) (hw : wf h) (H : (x1 < 1 → (Q (some (.inl (-3))) h)) ∧ (¬ (x1 < 1) → ((x1 ≤ 99999 → (am_R (am_prog scr) d f_Graph_prepare 0 [some (.inr (.inr ((30 : Nat) : Int))), some (.inr (.inr ((24 : Nat) : Int))), none, none, none] [] h (fun v g1 => v = none ∧ wf g1 ∧ (am_R (am_prog scr) d f_Graph_leaveAlone 0 [some (.inr (.inr ((30 : Nat) : Int))), none] [] g1 (fun v g2 => v = none ∧ wf g2 ∧ (am_R (am_prog scr) d f_Graph_snorerAlone 0 [some (.inr (.inr ((30 : Nat) : Int))), some (.inl x1), none, none] [] g2 (fun v g3 => ∃ r4 : Int, v = some (.inl r4) ∧ wf g3 ∧ (Q (some (.inl r4)) g3)))))))) ∧ (¬ (x1 ≤ 99999) → (Q (some (.inl (-3))) h))))) : am_R (am_prog scr) (d + 1) f_S_lies 0 [some (.inr (.inr ((0 : Nat) : Int))), some (.inl x1)] [] h Q := by
  have hp : ∀ k, (am_prog scr).1 f_S_lies k = c_S_lies k := fun _ => rfl
  refine am_R.next ((hp 0).trans rfl) rfl ?_
  refine am_R.next ((hp 1).trans rfl) rfl ?_
  refine r_ic ((hp 2).trans rfl) (fun c6 => ?_) (fun c6 => ?_)
  · have H := H.1 c6
    refine am_R.next ((hp 12).trans rfl) rfl ?_
    exact am_R.ret ((hp 14).trans rfl) rfl H
  · have H := H.2 c6
    refine am_R.next ((hp 5).trans rfl) rfl ?_
    refine am_R.next ((hp 6).trans rfl) rfl ?_
    refine r_ic ((hp 9).trans rfl) (fun c5 => ?_) (fun c5 => ?_)
    · have H := H.1 c5
      refine am_R.next ((hp 15).trans rfl) rfl ?_
      refine r_getR ((hp 16).trans rfl) (hw.o (i := 0) (by decide) rfl) (hw.r wr_0_8) ?_
      refine am_R.next ((hp 19).trans rfl) rfl ?_
      refine r_getR ((hp 20).trans rfl) (hw.o (i := 0) (by decide) rfl) (hw.r wr_0_12) ?_
      refine r_cv (bs := [.inr (.inr ((24 : Nat) : Int))]) (st' := []) ((hp 23).trans rfl) (hw.o (i := 30) (by decide) rfl) rfl rfl (Nat.le_of_ble_eq_true rfl) (Nat.le_of_ble_eq_true rfl) (am_R.post H (fun v g1 hq => ?_))
      obtain ⟨rfl, hw, H⟩ := hq
      change am_R _ _ _ _ _ [] _ _
      refine am_R.next ((hp 26).trans rfl) rfl ?_
      refine r_getR ((hp 27).trans rfl) (hw.o (i := 0) (by decide) rfl) (hw.r wr_0_8) ?_
      refine r_cv (bs := []) (st' := []) ((hp 30).trans rfl) (hw.o (i := 30) (by decide) rfl) rfl rfl (Nat.le_of_ble_eq_true rfl) (Nat.le_of_ble_eq_true rfl) (am_R.post H (fun v g2 hq => ?_))
      obtain ⟨rfl, hw, H⟩ := hq
      change am_R _ _ _ _ _ [] _ _
      refine am_R.next ((hp 33).trans rfl) rfl ?_
      refine r_getR ((hp 34).trans rfl) (hw.o (i := 0) (by decide) rfl) (hw.r wr_0_8) ?_
      refine am_R.next ((hp 37).trans rfl) rfl ?_
      refine r_cv (bs := [.inl x1]) (st' := []) ((hp 38).trans rfl) (hw.o (i := 30) (by decide) rfl) rfl rfl (Nat.le_of_ble_eq_true rfl) (Nat.le_of_ble_eq_true rfl) (am_R.post H (fun v g3 hq => ?_))
      obtain ⟨r4, rfl, hw, H⟩ := hq
      change am_R _ _ _ _ _ [.inl r4] _ _
      exact am_R.ret ((hp 41).trans rfl) rfl H
    · have H := H.2 c5
      refine am_R.next ((hp 12).trans rfl) rfl ?_
      exact am_R.ret ((hp 14).trans rfl) rfl H
theorem w_S_round_0 {scr : Nat × (Nat → Int)} {d : Nat} {h : am_H} {Q : Option am_V → am_H → Prop} {x1 : Int} (hs : am_sc scr) (hw : wf h) (H : (x1 < 0 → (Q (some (.inl (-2))) h)) ∧ (¬ (x1 < 0) → ((x1 ≤ 1 → (am_R (am_prog scr) d f_Graph_prepare 0 [some (.inr (.inr ((30 : Nat) : Int))), some (.inr (.inr ((24 : Nat) : Int))), none, none, none] [] h (fun v g1 => v = none ∧ wf g1 ∧ (am_R (am_prog scr) d f_Graph_leaveAlone 0 [some (.inr (.inr ((30 : Nat) : Int))), none] [] g1 (fun v g2 => v = none ∧ wf g2 ∧ ((¬ ((g2.2.2.2 30 12) = (-1)) → ((¬ (x1 = 0) → (Q (some (.inl (am_w ((g2.2.2.2 30 11) - (g2.2.2.2 30 12))))) g2)) ∧ (x1 = 0 → (Q (some (.inl (g2.2.2.2 30 12))) g2)))) ∧ ((g2.2.2.2 30 12) = (-1) → (Q (some (.inl (-1))) g2)))))))) ∧ (¬ (x1 ≤ 1) → (Q (some (.inl (-2))) h))))) : am_R (am_prog scr) (d + 1) f_S_round 0 [some (.inr (.inr ((0 : Nat) : Int))), some (.inl x1)] [] h Q := by
  have hp : ∀ k, (am_prog scr).1 f_S_round k = c_S_round k := fun _ => rfl
  refine am_R.next ((hp 0).trans rfl) rfl ?_
  refine r_if ((hp 1).trans rfl) (fun c6 => ?_) (fun c6 => ?_)
  · have H := H.1 c6
    refine am_R.next ((hp 9).trans rfl) rfl ?_
    exact am_R.ret ((hp 11).trans rfl) rfl H
  · have H := H.2 c6
    refine am_R.next ((hp 4).trans rfl) rfl ?_
    refine am_R.next ((hp 5).trans rfl) rfl ?_
    refine r_ic ((hp 6).trans rfl) (fun c5 => ?_) (fun c5 => ?_)
    · have H := H.1 c5
      refine am_R.next ((hp 12).trans rfl) rfl ?_
      refine r_getR ((hp 13).trans rfl) (hw.o (i := 0) (by decide) rfl) (hw.r wr_0_8) ?_
      refine am_R.next ((hp 16).trans rfl) rfl ?_
      refine r_getR ((hp 17).trans rfl) (hw.o (i := 0) (by decide) rfl) (hw.r wr_0_12) ?_
      refine r_cv (bs := [.inr (.inr ((24 : Nat) : Int))]) (st' := []) ((hp 20).trans rfl) (hw.o (i := 30) (by decide) rfl) rfl rfl (Nat.le_of_ble_eq_true rfl) (Nat.le_of_ble_eq_true rfl) (am_R.post H (fun v g1 hq => ?_))
      obtain ⟨rfl, hw, H⟩ := hq
      change am_R _ _ _ _ _ [] _ _
      refine am_R.next ((hp 23).trans rfl) rfl ?_
      refine r_getR ((hp 24).trans rfl) (hw.o (i := 0) (by decide) rfl) (hw.r wr_0_8) ?_
      refine r_cv (bs := []) (st' := []) ((hp 27).trans rfl) (hw.o (i := 30) (by decide) rfl) rfl rfl (Nat.le_of_ble_eq_true rfl) (Nat.le_of_ble_eq_true rfl) (am_R.post H (fun v g2 hq => ?_))
      obtain ⟨rfl, hw, H⟩ := hq
      change am_R _ _ _ _ _ [] _ _
      refine am_R.next ((hp 30).trans rfl) rfl ?_
      refine r_getR ((hp 31).trans rfl) (hw.o (i := 0) (by decide) rfl) (hw.r wr_0_8) ?_
      refine r_getI ((hp 34).trans rfl) (hw.o (i := 30) (by decide) rfl) ?_
      refine am_R.next ((hp 37).trans rfl) rfl ?_
      refine r_ic ((hp 38).trans rfl) (fun c4 => ?_) (fun c4 => ?_)
      · have H := H.1 c4
        refine am_R.next ((hp 43).trans rfl) rfl ?_
        refine r_if ((hp 44).trans rfl) (fun c3 => ?_) (fun c3 => ?_)
        · have H := H.1 c3
          refine am_R.next ((hp 57).trans rfl) rfl ?_
          refine r_getR ((hp 58).trans rfl) (hw.o (i := 0) (by decide) rfl) (hw.r wr_0_8) ?_
          refine r_getI ((hp 61).trans rfl) (hw.o (i := 30) (by decide) rfl) ?_
          refine am_R.next ((hp 64).trans rfl) rfl ?_
          refine r_getR ((hp 65).trans rfl) (hw.o (i := 0) (by decide) rfl) (hw.r wr_0_8) ?_
          refine r_getI ((hp 68).trans rfl) (hw.o (i := 30) (by decide) rfl) ?_
          refine am_R.next ((hp 71).trans rfl) rfl ?_
          exact am_R.ret ((hp 72).trans rfl) rfl H
        · have H := H.2 (Decidable.not_not.mp c3)
          refine am_R.next ((hp 47).trans rfl) rfl ?_
          refine r_getR ((hp 48).trans rfl) (hw.o (i := 0) (by decide) rfl) (hw.r wr_0_8) ?_
          refine r_getI ((hp 51).trans rfl) (hw.o (i := 30) (by decide) rfl) ?_
          refine am_R.next ((hp 54).trans rfl) rfl ?_
          exact am_R.ret ((hp 72).trans rfl) rfl H
      · have H := H.2 (Decidable.not_not.mp c4)
        refine am_R.next ((hp 41).trans rfl) rfl ?_
        exact am_R.ret ((hp 42).trans rfl) rfl H
    · have H := H.2 c5
      refine am_R.next ((hp 9).trans rfl) rfl ?_
      exact am_R.ret ((hp 11).trans rfl) rfl H
theorem w_S_soonest_0 {scr : Nat × (Nat → Int)} {d : Nat} {h : am_H} {Q : Option am_V → am_H → Prop} {x1 : Int} (hs : am_sc scr) (hw : wf h) (H : (x1 < 0 → (Q (some (.inl (-2))) h)) ∧ (¬ (x1 < 0) → ((x1 ≤ 1 → (am_R (am_prog scr) d f_Graph_prepare 0 [some (.inr (.inr ((30 : Nat) : Int))), some (.inr (.inr ((24 : Nat) : Int))), none, none, none] [] h (fun v g1 => v = none ∧ wf g1 ∧ ((¬ (x1 = 1) → (am_R (am_prog scr) d f_Search_fewest 0 [some (.inr (.inr ((40 : Nat) : Int))), some (.inl 0), none, none, none, none] [] g1 (fun v g2 => ∃ r3 : Int, v = some (.inl r3) ∧ wf g2 ∧ (Q (some (.inl r3)) g2)))) ∧ (x1 = 1 → (am_R (am_prog scr) d f_Search_fewest 0 [some (.inr (.inr ((40 : Nat) : Int))), some (.inl 1), none, none, none, none] [] g1 (fun v g4 => ∃ r5 : Int, v = some (.inl r5) ∧ wf g4 ∧ (Q (some (.inl r5)) g4)))))))) ∧ (¬ (x1 ≤ 1) → (Q (some (.inl (-2))) h))))) : am_R (am_prog scr) (d + 1) f_S_soonest 0 [some (.inr (.inr ((0 : Nat) : Int))), some (.inl x1)] [] h Q := by
  have hp : ∀ k, (am_prog scr).1 f_S_soonest k = c_S_soonest k := fun _ => rfl
  refine am_R.next ((hp 0).trans rfl) rfl ?_
  refine r_if ((hp 1).trans rfl) (fun c8 => ?_) (fun c8 => ?_)
  · have H := H.1 c8
    refine am_R.next ((hp 9).trans rfl) rfl ?_
    exact am_R.ret ((hp 11).trans rfl) rfl H
  · have H := H.2 c8
    refine am_R.next ((hp 4).trans rfl) rfl ?_
    refine am_R.next ((hp 5).trans rfl) rfl ?_
    refine r_ic ((hp 6).trans rfl) (fun c7 => ?_) (fun c7 => ?_)
    · have H := H.1 c7
      refine am_R.next ((hp 12).trans rfl) rfl ?_
      refine r_getR ((hp 13).trans rfl) (hw.o (i := 0) (by decide) rfl) (hw.r wr_0_8) ?_
      refine am_R.next ((hp 16).trans rfl) rfl ?_
      refine r_getR ((hp 17).trans rfl) (hw.o (i := 0) (by decide) rfl) (hw.r wr_0_12) ?_
      refine r_cv (bs := [.inr (.inr ((24 : Nat) : Int))]) (st' := []) ((hp 20).trans rfl) (hw.o (i := 30) (by decide) rfl) rfl rfl (Nat.le_of_ble_eq_true rfl) (Nat.le_of_ble_eq_true rfl) (am_R.post H (fun v g1 hq => ?_))
      obtain ⟨rfl, hw, H⟩ := hq
      change am_R _ _ _ _ _ [] _ _
      refine am_R.next ((hp 23).trans rfl) rfl ?_
      refine r_getR ((hp 24).trans rfl) (hw.o (i := 0) (by decide) rfl) (hw.r wr_0_9) ?_
      refine am_R.next ((hp 27).trans rfl) rfl ?_
      refine am_R.next ((hp 28).trans rfl) rfl ?_
      refine r_ic ((hp 29).trans rfl) (fun c6 => ?_) (fun c6 => ?_)
      · have H := H.1 c6
        refine am_R.next ((hp 36).trans rfl) rfl ?_
        refine r_cv (bs := [.inl 0]) (st' := []) ((hp 37).trans rfl) (hw.o (i := 40) (by decide) rfl) rfl rfl (Nat.le_of_ble_eq_true rfl) (Nat.le_of_ble_eq_true rfl) (am_R.post H (fun v g2 hq => ?_))
        obtain ⟨r3, rfl, hw, H⟩ := hq
        change am_R _ _ _ _ _ [.inl r3] _ _
        exact am_R.ret ((hp 40).trans rfl) rfl H
      · have H := H.2 (Decidable.not_not.mp c6)
        refine am_R.next ((hp 32).trans rfl) rfl ?_
        refine am_R.next ((hp 33).trans rfl) rfl ?_
        refine r_cv (bs := [.inl 1]) (st' := []) ((hp 37).trans rfl) (hw.o (i := 40) (by decide) rfl) rfl rfl (Nat.le_of_ble_eq_true rfl) (Nat.le_of_ble_eq_true rfl) (am_R.post H (fun v g4 hq => ?_))
        obtain ⟨r5, rfl, hw, H⟩ := hq
        change am_R _ _ _ _ _ [.inl r5] _ _
        exact am_R.ret ((hp 40).trans rfl) rfl H
    · have H := H.2 c7
      refine am_R.next ((hp 9).trans rfl) rfl ?_
      exact am_R.ret ((hp 11).trans rfl) rfl H
theorem w_S_way_0 {scr : Nat × (Nat → Int)} {d : Nat} {h : am_H} {Q : Option am_V → am_H → Prop} {x1 x2 : Int} (hs : am_sc scr) (hw : wf h) (H : (x1 < 0 → (Q (some (.inl (-2))) h)) ∧ (¬ (x1 < 0) → ((x1 ≤ 1 → ((¬ (x2 < 0) → (am_R (am_prog scr) d f_Graph_prepare 0 [some (.inr (.inr ((30 : Nat) : Int))), some (.inr (.inr ((24 : Nat) : Int))), none, none, none] [] h (fun v g1 => v = none ∧ wf g1 ∧ ((¬ (x1 = 1) → (am_R (am_prog scr) d f_Search_fewestDeed 0 [some (.inr (.inr ((40 : Nat) : Int))), some (.inl 0), some (.inl x2), none] [] g1 (fun v g2 => ∃ r3 : Int, v = some (.inl r3) ∧ wf g2 ∧ (Q (some (.inl r3)) g2)))) ∧ (x1 = 1 → (am_R (am_prog scr) d f_Search_fewestDeed 0 [some (.inr (.inr ((40 : Nat) : Int))), some (.inl 1), some (.inl x2), none] [] g1 (fun v g4 => ∃ r5 : Int, v = some (.inl r5) ∧ wf g4 ∧ (Q (some (.inl r5)) g4)))))))) ∧ (x2 < 0 → (Q (some (.inl (-3))) h)))) ∧ (¬ (x1 ≤ 1) → (Q (some (.inl (-2))) h))))) : am_R (am_prog scr) (d + 1) f_S_way 0 [some (.inr (.inr ((0 : Nat) : Int))), some (.inl x1), some (.inl x2)] [] h Q := by
  have hp : ∀ k, (am_prog scr).1 f_S_way k = c_S_way k := fun _ => rfl
  refine am_R.next ((hp 0).trans rfl) rfl ?_
  refine r_if ((hp 1).trans rfl) (fun c9 => ?_) (fun c9 => ?_)
  · have H := H.1 c9
    refine am_R.next ((hp 9).trans rfl) rfl ?_
    exact am_R.ret ((hp 11).trans rfl) rfl H
  · have H := H.2 c9
    refine am_R.next ((hp 4).trans rfl) rfl ?_
    refine am_R.next ((hp 5).trans rfl) rfl ?_
    refine r_ic ((hp 6).trans rfl) (fun c8 => ?_) (fun c8 => ?_)
    · have H := H.1 c8
      refine am_R.next ((hp 12).trans rfl) rfl ?_
      refine r_if ((hp 13).trans rfl) (fun c7 => ?_) (fun c7 => ?_)
      · have H := H.1 c7
        refine am_R.next ((hp 19).trans rfl) rfl ?_
        refine r_getR ((hp 20).trans rfl) (hw.o (i := 0) (by decide) rfl) (hw.r wr_0_8) ?_
        refine am_R.next ((hp 23).trans rfl) rfl ?_
        refine r_getR ((hp 24).trans rfl) (hw.o (i := 0) (by decide) rfl) (hw.r wr_0_12) ?_
        refine r_cv (bs := [.inr (.inr ((24 : Nat) : Int))]) (st' := []) ((hp 27).trans rfl) (hw.o (i := 30) (by decide) rfl) rfl rfl (Nat.le_of_ble_eq_true rfl) (Nat.le_of_ble_eq_true rfl) (am_R.post H (fun v g1 hq => ?_))
        obtain ⟨rfl, hw, H⟩ := hq
        change am_R _ _ _ _ _ [] _ _
        refine am_R.next ((hp 30).trans rfl) rfl ?_
        refine r_getR ((hp 31).trans rfl) (hw.o (i := 0) (by decide) rfl) (hw.r wr_0_9) ?_
        refine am_R.next ((hp 34).trans rfl) rfl ?_
        refine am_R.next ((hp 35).trans rfl) rfl ?_
        refine r_ic ((hp 36).trans rfl) (fun c6 => ?_) (fun c6 => ?_)
        · have H := H.1 c6
          refine am_R.next ((hp 43).trans rfl) rfl ?_
          refine am_R.next ((hp 44).trans rfl) rfl ?_
          refine r_cv (bs := [.inl 0, .inl x2]) (st' := []) ((hp 45).trans rfl) (hw.o (i := 40) (by decide) rfl) rfl rfl (Nat.le_of_ble_eq_true rfl) (Nat.le_of_ble_eq_true rfl) (am_R.post H (fun v g2 hq => ?_))
          obtain ⟨r3, rfl, hw, H⟩ := hq
          change am_R _ _ _ _ _ [.inl r3] _ _
          exact am_R.ret ((hp 48).trans rfl) rfl H
        · have H := H.2 (Decidable.not_not.mp c6)
          refine am_R.next ((hp 39).trans rfl) rfl ?_
          refine am_R.next ((hp 40).trans rfl) rfl ?_
          refine am_R.next ((hp 44).trans rfl) rfl ?_
          refine r_cv (bs := [.inl 1, .inl x2]) (st' := []) ((hp 45).trans rfl) (hw.o (i := 40) (by decide) rfl) rfl rfl (Nat.le_of_ble_eq_true rfl) (Nat.le_of_ble_eq_true rfl) (am_R.post H (fun v g4 hq => ?_))
          obtain ⟨r5, rfl, hw, H⟩ := hq
          change am_R _ _ _ _ _ [.inl r5] _ _
          exact am_R.ret ((hp 48).trans rfl) rfl H
      · have H := H.2 (Decidable.not_not.mp c7)
        refine am_R.next ((hp 16).trans rfl) rfl ?_
        exact am_R.ret ((hp 18).trans rfl) rfl H
    · have H := H.2 c8
      refine am_R.next ((hp 9).trans rfl) rfl ?_
      exact am_R.ret ((hp 11).trans rfl) rfl H
theorem w_S_rows_0 {scr : Nat × (Nat → Int)} {d : Nat} {h : am_H} {Q : Option am_V → am_H → Prop} {x1 x2 : Int} (hs : am_sc scr) (hw : wf h) (H : (x1 < 0 → (Q (some (.inr (.inl (-2)))) h)) ∧ (¬ (x1 < 0) → ((x1 ≤ 2 → ((x2 < 0 → (Q (some (.inr (.inl (-3)))) h)) ∧ (¬ (x2 < 0) → ((x2 ≤ 10 → (am_R (am_prog scr) d f_Graph_prepare 0 [some (.inr (.inr ((30 : Nat) : Int))), some (.inr (.inr ((24 : Nat) : Int))), none, none, none] [] h (fun v g1 => v = none ∧ wf g1 ∧ (am_R (am_prog scr) d f_Tally_rowsOf 0 [some (.inr (.inr ((43 : Nat) : Int))), some (.inl x1), some (.inl x2), none, none, none, none] [] g1 (fun v g2 => ∃ r3 : Int, v = some (.inr (.inl r3)) ∧ wf g2 ∧ (Q (some (.inr (.inl r3))) g2)))))) ∧ (¬ (x2 ≤ 10) → (Q (some (.inr (.inl (-3)))) h)))))) ∧ (¬ (x1 ≤ 2) → (Q (some (.inr (.inl (-2)))) h))))) : am_R (am_prog scr) (d + 1) f_S_rows 0 [some (.inr (.inr ((0 : Nat) : Int))), some (.inl x1), some (.inl x2)] [] h Q := by
  have hp : ∀ k, (am_prog scr).1 f_S_rows k = c_S_rows k := fun _ => rfl
  refine am_R.next ((hp 0).trans rfl) rfl ?_
  refine r_if ((hp 1).trans rfl) (fun c7 => ?_) (fun c7 => ?_)
  · have H := H.1 c7
    refine am_R.next ((hp 9).trans rfl) rfl ?_
    exact am_R.ret ((hp 12).trans rfl) rfl H
  · have H := H.2 c7
    refine am_R.next ((hp 4).trans rfl) rfl ?_
    refine am_R.next ((hp 5).trans rfl) rfl ?_
    refine r_ic ((hp 6).trans rfl) (fun c6 => ?_) (fun c6 => ?_)
    · have H := H.1 c6
      refine am_R.next ((hp 13).trans rfl) rfl ?_
      refine r_if ((hp 14).trans rfl) (fun c5 => ?_) (fun c5 => ?_)
      · have H := H.1 c5
        refine am_R.next ((hp 23).trans rfl) rfl ?_
        exact am_R.ret ((hp 26).trans rfl) rfl H
      · have H := H.2 c5
        refine am_R.next ((hp 17).trans rfl) rfl ?_
        refine am_R.next ((hp 18).trans rfl) rfl ?_
        refine r_ic ((hp 20).trans rfl) (fun c4 => ?_) (fun c4 => ?_)
        · have H := H.1 c4
          refine am_R.next ((hp 27).trans rfl) rfl ?_
          refine r_getR ((hp 28).trans rfl) (hw.o (i := 0) (by decide) rfl) (hw.r wr_0_8) ?_
          refine am_R.next ((hp 31).trans rfl) rfl ?_
          refine r_getR ((hp 32).trans rfl) (hw.o (i := 0) (by decide) rfl) (hw.r wr_0_12) ?_
          refine r_cv (bs := [.inr (.inr ((24 : Nat) : Int))]) (st' := []) ((hp 35).trans rfl) (hw.o (i := 30) (by decide) rfl) rfl rfl (Nat.le_of_ble_eq_true rfl) (Nat.le_of_ble_eq_true rfl) (am_R.post H (fun v g1 hq => ?_))
          obtain ⟨rfl, hw, H⟩ := hq
          change am_R _ _ _ _ _ [] _ _
          refine am_R.next ((hp 38).trans rfl) rfl ?_
          refine r_getR ((hp 39).trans rfl) (hw.o (i := 0) (by decide) rfl) (hw.r wr_0_10) ?_
          refine am_R.next ((hp 42).trans rfl) rfl ?_
          refine am_R.next ((hp 43).trans rfl) rfl ?_
          refine r_cv (bs := [.inl x1, .inl x2]) (st' := []) ((hp 44).trans rfl) (hw.o (i := 43) (by decide) rfl) rfl rfl (Nat.le_of_ble_eq_true rfl) (Nat.le_of_ble_eq_true rfl) (am_R.post H (fun v g2 hq => ?_))
          obtain ⟨r3, rfl, hw, H⟩ := hq
          change am_R _ _ _ _ _ [.inr (.inl r3)] _ _
          exact am_R.ret ((hp 47).trans rfl) rfl H
        · have H := H.2 c4
          refine am_R.next ((hp 23).trans rfl) rfl ?_
          exact am_R.ret ((hp 26).trans rfl) rfl H
    · have H := H.2 c6
      refine am_R.next ((hp 9).trans rfl) rfl ?_
      exact am_R.ret ((hp 12).trans rfl) rfl H
theorem w_S_keeps_0 {scr : Nat × (Nat → Int)} {d : Nat} {h : am_H} {Q : Option am_V → am_H → Prop} (hs : am_sc scr) (hw : wf h) (H : am_R (am_prog scr) d f_Play_goesOn 0 [some (.inr (.inr ((24 : Nat) : Int)))] [] h (fun v g1 => ∃ r2 : Int, v = some (.inl r2) ∧ wf g1 ∧ ((¬ (r2 = 0) → (am_R (am_prog scr) d f_Graph_prepare 0 [some (.inr (.inr ((30 : Nat) : Int))), some (.inr (.inr ((24 : Nat) : Int))), none, none, none] [] g1 (fun v g3 => v = none ∧ wf g3 ∧ (am_R (am_prog scr) d f_Search_longest 0 [some (.inr (.inr ((40 : Nat) : Int))), none, none, none, none] [] g3 (fun v g4 => ∃ r5 : Int, v = some (.inl r5) ∧ wf g4 ∧ (Q (some (.inl r5)) g4)))))) ∧ (r2 = 0 → (Q (some (.inl (-5))) g1))))) : am_R (am_prog scr) (d + 1) f_S_keeps 0 [some (.inr (.inr ((0 : Nat) : Int)))] [] h Q := by
  have hp : ∀ k, (am_prog scr).1 f_S_keeps k = c_S_keeps k := fun _ => rfl
  refine am_R.next ((hp 0).trans rfl) rfl ?_
  refine r_getR ((hp 1).trans rfl) (hw.o (i := 0) (by decide) rfl) (hw.r wr_0_12) ?_
  refine r_cv (bs := []) (st' := []) ((hp 4).trans rfl) (hw.o (i := 24) (by decide) rfl) rfl rfl (Nat.le_of_ble_eq_true rfl) (Nat.le_of_ble_eq_true rfl) (am_R.post H (fun v g1 hq => ?_))
  obtain ⟨r2, rfl, hw, H⟩ := hq
  change am_R _ _ _ _ _ [.inl r2] _ _
  refine r_if ((hp 7).trans rfl) (fun c6 => ?_) (fun c6 => ?_)
  · have H := H.1 c6
    refine am_R.next ((hp 13).trans rfl) rfl ?_
    refine r_getR ((hp 14).trans rfl) (hw.o (i := 0) (by decide) rfl) (hw.r wr_0_8) ?_
    refine am_R.next ((hp 17).trans rfl) rfl ?_
    refine r_getR ((hp 18).trans rfl) (hw.o (i := 0) (by decide) rfl) (hw.r wr_0_12) ?_
    refine r_cv (bs := [.inr (.inr ((24 : Nat) : Int))]) (st' := []) ((hp 21).trans rfl) (hw.o (i := 30) (by decide) rfl) rfl rfl (Nat.le_of_ble_eq_true rfl) (Nat.le_of_ble_eq_true rfl) (am_R.post H (fun v g3 hq => ?_))
    obtain ⟨rfl, hw, H⟩ := hq
    change am_R _ _ _ _ _ [] _ _
    refine am_R.next ((hp 24).trans rfl) rfl ?_
    refine r_getR ((hp 25).trans rfl) (hw.o (i := 0) (by decide) rfl) (hw.r wr_0_9) ?_
    refine r_cv (bs := []) (st' := []) ((hp 28).trans rfl) (hw.o (i := 40) (by decide) rfl) rfl rfl (Nat.le_of_ble_eq_true rfl) (Nat.le_of_ble_eq_true rfl) (am_R.post H (fun v g4 hq => ?_))
    obtain ⟨r5, rfl, hw, H⟩ := hq
    change am_R _ _ _ _ _ [.inl r5] _ _
    exact am_R.ret ((hp 31).trans rfl) rfl H
  · have H := H.2 (Decidable.not_not.mp c6)
    refine am_R.next ((hp 10).trans rfl) rfl ?_
    exact am_R.ret ((hp 12).trans rfl) rfl H
theorem w_S_keeping_0 {scr : Nat × (Nat → Int)} {d : Nat} {h : am_H} {Q : Option am_V → am_H → Prop} {x1 : Int} (hs : am_sc scr) (hw : wf h) (H : (x1 < 0 → (Q (some (.inl (-3))) h)) ∧ (¬ (x1 < 0) → ((x1 ≤ 99 → (am_R (am_prog scr) d f_Play_goesOn 0 [some (.inr (.inr ((24 : Nat) : Int)))] [] h (fun v g1 => ∃ r2 : Int, v = some (.inl r2) ∧ wf g1 ∧ ((¬ (r2 = 0) → (am_R (am_prog scr) d f_Graph_prepare 0 [some (.inr (.inr ((30 : Nat) : Int))), some (.inr (.inr ((24 : Nat) : Int))), none, none, none] [] g1 (fun v g3 => v = none ∧ wf g3 ∧ (am_R (am_prog scr) d f_Search_longestDeed 0 [some (.inr (.inr ((40 : Nat) : Int))), some (.inl x1), none, none, none] [] g3 (fun v g4 => ∃ r5 : Int, v = some (.inl r5) ∧ wf g4 ∧ (Q (some (.inl r5)) g4)))))) ∧ (r2 = 0 → (Q (some (.inl (-5))) g1)))))) ∧ (¬ (x1 ≤ 99) → (Q (some (.inl (-3))) h))))) : am_R (am_prog scr) (d + 1) f_S_keeping 0 [some (.inr (.inr ((0 : Nat) : Int))), some (.inl x1)] [] h Q := by
  have hp : ∀ k, (am_prog scr).1 f_S_keeping k = c_S_keeping k := fun _ => rfl
  refine am_R.next ((hp 0).trans rfl) rfl ?_
  refine r_if ((hp 1).trans rfl) (fun c8 => ?_) (fun c8 => ?_)
  · have H := H.1 c8
    refine am_R.next ((hp 10).trans rfl) rfl ?_
    exact am_R.ret ((hp 12).trans rfl) rfl H
  · have H := H.2 c8
    refine am_R.next ((hp 4).trans rfl) rfl ?_
    refine am_R.next ((hp 5).trans rfl) rfl ?_
    refine r_ic ((hp 7).trans rfl) (fun c7 => ?_) (fun c7 => ?_)
    · have H := H.1 c7
      refine am_R.next ((hp 13).trans rfl) rfl ?_
      refine r_getR ((hp 14).trans rfl) (hw.o (i := 0) (by decide) rfl) (hw.r wr_0_12) ?_
      refine r_cv (bs := []) (st' := []) ((hp 17).trans rfl) (hw.o (i := 24) (by decide) rfl) rfl rfl (Nat.le_of_ble_eq_true rfl) (Nat.le_of_ble_eq_true rfl) (am_R.post H (fun v g1 hq => ?_))
      obtain ⟨r2, rfl, hw, H⟩ := hq
      change am_R _ _ _ _ _ [.inl r2] _ _
      refine r_if ((hp 20).trans rfl) (fun c6 => ?_) (fun c6 => ?_)
      · have H := H.1 c6
        refine am_R.next ((hp 26).trans rfl) rfl ?_
        refine r_getR ((hp 27).trans rfl) (hw.o (i := 0) (by decide) rfl) (hw.r wr_0_8) ?_
        refine am_R.next ((hp 30).trans rfl) rfl ?_
        refine r_getR ((hp 31).trans rfl) (hw.o (i := 0) (by decide) rfl) (hw.r wr_0_12) ?_
        refine r_cv (bs := [.inr (.inr ((24 : Nat) : Int))]) (st' := []) ((hp 34).trans rfl) (hw.o (i := 30) (by decide) rfl) rfl rfl (Nat.le_of_ble_eq_true rfl) (Nat.le_of_ble_eq_true rfl) (am_R.post H (fun v g3 hq => ?_))
        obtain ⟨rfl, hw, H⟩ := hq
        change am_R _ _ _ _ _ [] _ _
        refine am_R.next ((hp 37).trans rfl) rfl ?_
        refine r_getR ((hp 38).trans rfl) (hw.o (i := 0) (by decide) rfl) (hw.r wr_0_9) ?_
        refine am_R.next ((hp 41).trans rfl) rfl ?_
        refine r_cv (bs := [.inl x1]) (st' := []) ((hp 42).trans rfl) (hw.o (i := 40) (by decide) rfl) rfl rfl (Nat.le_of_ble_eq_true rfl) (Nat.le_of_ble_eq_true rfl) (am_R.post H (fun v g4 hq => ?_))
        obtain ⟨r5, rfl, hw, H⟩ := hq
        change am_R _ _ _ _ _ [.inl r5] _ _
        exact am_R.ret ((hp 45).trans rfl) rfl H
      · have H := H.2 (Decidable.not_not.mp c6)
        refine am_R.next ((hp 23).trans rfl) rfl ?_
        exact am_R.ret ((hp 25).trans rfl) rfl H
    · have H := H.2 c7
      refine am_R.next ((hp 10).trans rfl) rfl ?_
      exact am_R.ret ((hp 12).trans rfl) rfl H
theorem w_S_heardOf_0 {scr : Nat × (Nat → Int)} {d : Nat} {h : am_H} {Q : Option am_V → am_H → Prop} (hs : am_sc scr) (hw : wf h) (H : am_R (am_prog scr) d f_Graph_prepare 0 [some (.inr (.inr ((30 : Nat) : Int))), some (.inr (.inr ((24 : Nat) : Int))), none, none, none] [] h (fun v g1 => v = none ∧ wf g1 ∧ (am_R (am_prog scr) d f_Search_snorers 0 [some (.inr (.inr ((40 : Nat) : Int))), none, none, none, none] [] g1 (fun v g2 => ∃ r3 : Int, v = some (.inl r3) ∧ wf g2 ∧ (Q (some (.inl r3)) g2))))) : am_R (am_prog scr) (d + 1) f_S_heardOf 0 [some (.inr (.inr ((0 : Nat) : Int)))] [] h Q := by
  have hp : ∀ k, (am_prog scr).1 f_S_heardOf k = c_S_heardOf k := fun _ => rfl
  refine am_R.next ((hp 0).trans rfl) rfl ?_
  refine r_getR ((hp 1).trans rfl) (hw.o (i := 0) (by decide) rfl) (hw.r wr_0_8) ?_
  refine am_R.next ((hp 4).trans rfl) rfl ?_
  refine r_getR ((hp 5).trans rfl) (hw.o (i := 0) (by decide) rfl) (hw.r wr_0_12) ?_
  refine r_cv (bs := [.inr (.inr ((24 : Nat) : Int))]) (st' := []) ((hp 8).trans rfl) (hw.o (i := 30) (by decide) rfl) rfl rfl (Nat.le_of_ble_eq_true rfl) (Nat.le_of_ble_eq_true rfl) (am_R.post H (fun v g1 hq => ?_))
  obtain ⟨rfl, hw, H⟩ := hq
  change am_R _ _ _ _ _ [] _ _
  refine am_R.next ((hp 11).trans rfl) rfl ?_
  refine r_getR ((hp 12).trans rfl) (hw.o (i := 0) (by decide) rfl) (hw.r wr_0_9) ?_
  refine r_cv (bs := []) (st' := []) ((hp 15).trans rfl) (hw.o (i := 40) (by decide) rfl) rfl rfl (Nat.le_of_ble_eq_true rfl) (Nat.le_of_ble_eq_true rfl) (am_R.post H (fun v g2 hq => ?_))
  obtain ⟨r3, rfl, hw, H⟩ := hq
  change am_R _ _ _ _ _ [.inl r3] _ _
  exact am_R.ret ((hp 18).trans rfl) rfl H
theorem w_S_placing_0 {scr : Nat × (Nat → Int)} {d : Nat} {h : am_H} {Q : Option am_V → am_H → Prop} {x1 : Int} (hs : am_sc scr) (hw : wf h) (H : (x1 = 0 → (am_R (am_prog scr) (d + 1) f_S_placing 27 [some (.inr (.inr ((0 : Nat) : Int))), some (.inl x1)] [] h Q)) ∧ (¬ (x1 = 0) → ((x1 < 10 → (Q (some (.inl (-2))) h)) ∧ (¬ (x1 < 10) → (am_R (am_prog scr) d f_Play_has 0 [some (.inr (.inr ((24 : Nat) : Int))), some (.inl (am_w (x1 - 10)))] [] h (fun v g1 => ∃ r2 : Int, v = some (.inl r2) ∧ wf g1 ∧ ((¬ (r2 = 0) → (am_R (am_prog scr) (d + 1) f_S_placing 27 [some (.inr (.inr ((0 : Nat) : Int))), some (.inl x1)] [] g1 Q)) ∧ (r2 = 0 → (Q (some (.inl (-2))) g1))))))))) : am_R (am_prog scr) (d + 1) f_S_placing 0 [some (.inr (.inr ((0 : Nat) : Int))), some (.inl x1)] [] h Q := by
  have hp : ∀ k, (am_prog scr).1 f_S_placing k = c_S_placing k := fun _ => rfl
  refine am_R.next ((hp 0).trans rfl) rfl ?_
  refine r_if ((hp 1).trans rfl) (fun c5 => ?_) (fun c5 => ?_)
  · have H := H.1 c5
    exact H
  · have H := H.2 c5
    refine am_R.next ((hp 4).trans rfl) rfl ?_
    refine am_R.next ((hp 5).trans rfl) rfl ?_
    refine r_ic ((hp 7).trans rfl) (fun c4 => ?_) (fun c4 => ?_)
    · have H := H.1 c4
      refine am_R.next ((hp 24).trans rfl) rfl ?_
      exact am_R.ret ((hp 26).trans rfl) rfl H
    · have H := H.2 c4
      refine am_R.next ((hp 10).trans rfl) rfl ?_
      refine r_getR ((hp 11).trans rfl) (hw.o (i := 0) (by decide) rfl) (hw.r wr_0_12) ?_
      refine am_R.next ((hp 14).trans rfl) rfl ?_
      refine am_R.next ((hp 15).trans rfl) rfl ?_
      refine am_R.next ((hp 17).trans rfl) rfl ?_
      refine r_cv (bs := [.inl (am_w (x1 - 10))]) (st' := []) ((hp 18).trans rfl) (hw.o (i := 24) (by decide) rfl) rfl rfl (Nat.le_of_ble_eq_true rfl) (Nat.le_of_ble_eq_true rfl) (am_R.post H (fun v g1 hq => ?_))
      obtain ⟨r2, rfl, hw, H⟩ := hq
      change am_R _ _ _ _ _ [.inl r2] _ _
      refine r_if ((hp 21).trans rfl) (fun c3 => ?_) (fun c3 => ?_)
      · have H := H.1 c3
        exact H
      · have H := H.2 (Decidable.not_not.mp c3)
        refine am_R.next ((hp 24).trans rfl) rfl ?_
        exact am_R.ret ((hp 26).trans rfl) rfl H
theorem w_S_placing_27 {scr : Nat × (Nat → Int)} {d : Nat} {h : am_H} {Q : Option am_V → am_H → Prop} {x1 : Int} (hs : am_sc scr) (hw : wf h) (H : am_R (am_prog scr) d f_Placer_place 0 [some (.inr (.inr ((57 : Nat) : Int))), some (.inr (.inr ((24 : Nat) : Int))), none, none, none] [] h (fun v g1 => v = none ∧ wf g1 ∧ ((x1 = 0 → (Q (some (.inl (g1.2.2.2 57 4))) g1)) ∧ (¬ (x1 = 0) → ((¬ ((g1.2.2.2 57 4) = (-1)) → ((0 ≤ (am_w (x1 - 10)) ∧ (am_w (x1 - 10)) < 6) ∧ (Q (some (.inl (g1.2.2.2 62 ((am_w (x1 - 10)).toNat)))) g1))) ∧ ((g1.2.2.2 57 4) = (-1) → (Q (some (.inl (g1.2.2.2 57 4))) g1))))))) : am_R (am_prog scr) (d + 1) f_S_placing 27 [some (.inr (.inr ((0 : Nat) : Int))), some (.inl x1)] [] h Q := by
  have hp : ∀ k, (am_prog scr).1 f_S_placing k = c_S_placing k := fun _ => rfl
  refine am_R.next ((hp 27).trans rfl) rfl ?_
  refine r_getR ((hp 28).trans rfl) (hw.o (i := 0) (by decide) rfl) (hw.r wr_0_11) ?_
  refine am_R.next ((hp 31).trans rfl) rfl ?_
  refine r_getR ((hp 32).trans rfl) (hw.o (i := 0) (by decide) rfl) (hw.r wr_0_12) ?_
  refine r_cv (bs := [.inr (.inr ((24 : Nat) : Int))]) (st' := []) ((hp 35).trans rfl) (hw.o (i := 57) (by decide) rfl) rfl rfl (Nat.le_of_ble_eq_true rfl) (Nat.le_of_ble_eq_true rfl) (am_R.post H (fun v g1 hq => ?_))
  obtain ⟨rfl, hw, H⟩ := hq
  change am_R _ _ _ _ _ [] _ _
  refine am_R.next ((hp 38).trans rfl) rfl ?_
  refine r_if ((hp 39).trans rfl) (fun c4 => ?_) (fun c4 => ?_)
  · have H := H.1 c4
    refine am_R.next ((hp 53).trans rfl) rfl ?_
    refine r_getR ((hp 54).trans rfl) (hw.o (i := 0) (by decide) rfl) (hw.r wr_0_11) ?_
    refine r_getI ((hp 57).trans rfl) (hw.o (i := 57) (by decide) rfl) ?_
    exact am_R.ret ((hp 60).trans rfl) rfl H
  · have H := H.2 c4
    refine am_R.next ((hp 42).trans rfl) rfl ?_
    refine r_getR ((hp 43).trans rfl) (hw.o (i := 0) (by decide) rfl) (hw.r wr_0_11) ?_
    refine r_getI ((hp 46).trans rfl) (hw.o (i := 57) (by decide) rfl) ?_
    refine am_R.next ((hp 49).trans rfl) rfl ?_
    refine r_ic ((hp 50).trans rfl) (fun c3 => ?_) (fun c3 => ?_)
    · have H := H.1 c3
      refine am_R.next ((hp 61).trans rfl) rfl ?_
      refine r_getR ((hp 62).trans rfl) (hw.o (i := 0) (by decide) rfl) (hw.r wr_0_11) ?_
      refine r_getR ((hp 65).trans rfl) (hw.o (i := 57) (by decide) rfl) (hw.r wr_57_3) ?_
      refine am_R.next ((hp 68).trans rfl) rfl ?_
      refine am_R.next ((hp 69).trans rfl) rfl ?_
      refine am_R.next ((hp 71).trans rfl) rfl ?_
      obtain ⟨c2, H⟩ := H
      refine r_iald ((hp 72).trans rfl) (hw.a (i := 62) (by decide) rfl c2.1 c2.2) ?_
      exact am_R.ret ((hp 73).trans rfl) rfl H
    · have H := H.2 (Decidable.not_not.mp c3)
      refine am_R.next ((hp 53).trans rfl) rfl ?_
      refine r_getR ((hp 54).trans rfl) (hw.o (i := 0) (by decide) rfl) (hw.r wr_0_11) ?_
      refine r_getI ((hp 57).trans rfl) (hw.o (i := 57) (by decide) rfl) ?_
      exact am_R.ret ((hp 60).trans rfl) rfl H
theorem w_S_fills_0 {scr : Nat × (Nat → Int)} {d : Nat} {h : am_H} {Q : Option am_V → am_H → Prop} {x1 : Int} (hs : am_sc scr) (hw : wf h) (H : am_R (am_prog scr) d f_Play_has 0 [some (.inr (.inr ((24 : Nat) : Int))), some (.inl x1)] [] h (fun v g1 => ∃ r2 : Int, v = some (.inl r2) ∧ wf g1 ∧ ((¬ (r2 = 0) → (am_R (am_prog scr) (d + 1) f_S_fills 18 [some (.inr (.inr ((0 : Nat) : Int))), some (.inl x1), some (.inl 0), some (.inl 0)] [] g1 Q)) ∧ (r2 = 0 → (Q (some (.inl (-2))) g1))))) : am_R (am_prog scr) (d + 1) f_S_fills 0 [some (.inr (.inr ((0 : Nat) : Int))), some (.inl x1), none, none] [] h Q := by
  have hp : ∀ k, (am_prog scr).1 f_S_fills k = c_S_fills k := fun _ => rfl
  refine am_R.next ((hp 0).trans rfl) rfl ?_
  refine r_getR ((hp 1).trans rfl) (hw.o (i := 0) (by decide) rfl) (hw.r wr_0_12) ?_
  refine am_R.next ((hp 4).trans rfl) rfl ?_
  refine r_cv (bs := [.inl x1]) (st' := []) ((hp 5).trans rfl) (hw.o (i := 24) (by decide) rfl) rfl rfl (Nat.le_of_ble_eq_true rfl) (Nat.le_of_ble_eq_true rfl) (am_R.post H (fun v g1 hq => ?_))
  obtain ⟨r2, rfl, hw, H⟩ := hq
  change am_R _ _ _ _ _ [.inl r2] _ _
  refine r_if ((hp 8).trans rfl) (fun c3 => ?_) (fun c3 => ?_)
  · have H := H.1 c3
    refine am_R.next ((hp 14).trans rfl) rfl ?_
    refine am_R.next (lv' := [some (.inr (.inr ((0 : Nat) : Int))), some (.inl x1), some (.inl 0), none]) ((hp 15).trans rfl) rfl ?_
    refine am_R.next ((hp 16).trans rfl) rfl ?_
    refine am_R.next (lv' := [some (.inr (.inr ((0 : Nat) : Int))), some (.inl x1), some (.inl 0), some (.inl 0)]) ((hp 17).trans rfl) rfl ?_
    exact H
  · have H := H.2 (Decidable.not_not.mp c3)
    refine am_R.next ((hp 11).trans rfl) rfl ?_
    exact am_R.ret ((hp 13).trans rfl) rfl H
theorem w_S_fills_18 {scr : Nat × (Nat → Int)} {d : Nat} {h : am_H} {Q : Option am_V → am_H → Prop} {x1 x2 x3 : Int} (hs : am_sc scr) (hw : wf h) (H : (¬ (x3 < 10) → (Q (some (.inl x2)) h)) ∧ (x3 < 10 → (am_R (am_prog scr) d f_Play_takeFrom 0 [some (.inr (.inr ((27 : Nat) : Int))), some (.inr (.inr ((24 : Nat) : Int)))] [] h (fun v g1 => v = none ∧ wf g1 ∧ (((0 ≤ x1 ∧ x1 < 6)) ∧ (∀ h3 : am_H, h3 = am_put g1 29 x1.toNat x3 → (am_R (am_prog scr) d f_Stage_endsIn 0 [some (.inr (.inr ((9 : Nat) : Int))), some (.inr (.inr ((27 : Nat) : Int))), some (.inl 180), none, none] [] h3 (fun v g4 => ∃ r5 : Int, v = some (.inl r5) ∧ wf g4 ∧ ((r5 = (-1) → (∀ y6 : Int, y6 = am_w (x3 + 1) → (am_R (am_prog scr) (d + 1) f_S_fills 18 [some (.inr (.inr ((0 : Nat) : Int))), some (.inl x1), some (.inl x2), some (.inl y6)] [] g4 Q))) ∧ (¬ (r5 = (-1)) → (∀ y7 : Int, y7 = am_or x2 (am_shl 1 x3) → (∀ y8 : Int, y8 = am_w (x3 + 1) → (am_R (am_prog scr) (d + 1) f_S_fills 18 [some (.inr (.inr ((0 : Nat) : Int))), some (.inl x1), some (.inl y7), some (.inl y8)] [] g4 Q))))))))))))) : am_R (am_prog scr) (d + 1) f_S_fills 18 [some (.inr (.inr ((0 : Nat) : Int))), some (.inl x1), some (.inl x2), some (.inl x3)] [] h Q := by
  have hp : ∀ k, (am_prog scr).1 f_S_fills k = c_S_fills k := fun _ => rfl
  refine am_R.next ((hp 18).trans rfl) rfl ?_
  refine am_R.next ((hp 19).trans rfl) rfl ?_
  refine r_ic ((hp 21).trans rfl) (fun c10 => ?_) (fun c10 => ?_)
  · have H := H.1 c10
    refine am_R.next ((hp 75).trans rfl) rfl ?_
    exact am_R.ret ((hp 76).trans rfl) rfl H
  · have H := H.2 (Decidable.not_not.mp c10)
    refine am_R.next ((hp 24).trans rfl) rfl ?_
    refine r_getR ((hp 25).trans rfl) (hw.o (i := 0) (by decide) rfl) (hw.r wr_0_13) ?_
    refine am_R.next ((hp 28).trans rfl) rfl ?_
    refine r_getR ((hp 29).trans rfl) (hw.o (i := 0) (by decide) rfl) (hw.r wr_0_12) ?_
    refine r_cv (bs := [.inr (.inr ((24 : Nat) : Int))]) (st' := []) ((hp 32).trans rfl) (hw.o (i := 27) (by decide) rfl) rfl rfl (Nat.le_of_ble_eq_true rfl) (Nat.le_of_ble_eq_true rfl) (am_R.post H (fun v g1 hq => ?_))
    obtain ⟨rfl, hw, H⟩ := hq
    change am_R _ _ _ _ _ [] _ _
    refine am_R.next ((hp 35).trans rfl) rfl ?_
    refine r_getR ((hp 36).trans rfl) (hw.o (i := 0) (by decide) rfl) (hw.r wr_0_13) ?_
    refine r_getR ((hp 39).trans rfl) (hw.o (i := 27) (by decide) rfl) (hw.r wr_27_2) ?_
    refine am_R.next ((hp 42).trans rfl) rfl ?_
    refine am_R.next ((hp 43).trans rfl) rfl ?_
    obtain ⟨c2, H⟩ := H
    obtain ⟨h3, eh3⟩ : ∃ z : am_H, z = am_put g1 29 x1.toNat x3 := ⟨_, rfl⟩
    have H := H h3 eh3
    refine r_iast ((hp 44).trans rfl) (hw.a (i := 29) (by decide) rfl c2.1 c2.2) ?_
    have hw : wf h3 := by rw [eh3]; exact hw.pa na_29
    change am_R _ _ _ _ _ _ (am_put g1 29 x1.toNat x3) _
    rw [← eh3]
    refine am_R.next ((hp 45).trans rfl) rfl ?_
    refine r_getR ((hp 46).trans rfl) (hw.o (i := 0) (by decide) rfl) (hw.r wr_0_7) ?_
    refine am_R.next ((hp 49).trans rfl) rfl ?_
    refine r_getR ((hp 50).trans rfl) (hw.o (i := 0) (by decide) rfl) (hw.r wr_0_13) ?_
    refine am_R.next ((hp 53).trans rfl) rfl ?_
    refine r_cv (bs := [.inr (.inr ((27 : Nat) : Int)), .inl 180]) (st' := []) ((hp 56).trans rfl) (hw.o (i := 9) (by decide) rfl) rfl rfl (Nat.le_of_ble_eq_true rfl) (Nat.le_of_ble_eq_true rfl) (am_R.post H (fun v g4 hq => ?_))
    obtain ⟨r5, rfl, hw, H⟩ := hq
    change am_R _ _ _ _ _ [.inl r5] _ _
    refine am_R.next ((hp 59).trans rfl) rfl ?_
    refine r_ic ((hp 60).trans rfl) (fun c9 => ?_) (fun c9 => ?_)
    · have H := H.1 c9
      obtain ⟨y6, ey6⟩ : ∃ z : Int, z = am_w (x3 + 1) := ⟨_, rfl⟩
      have H := H y6 ey6
      refine am_R.next (lv' := [some (.inr (.inr ((0 : Nat) : Int))), some (.inl x1), some (.inl x2), some (.inl y6)]) (st' := []) (h' := g4) (pc' := 72) ((hp 69).trans rfl) (by rw [ey6]; rfl) ?_
      refine am_R.next ((hp 72).trans rfl) rfl ?_
      exact H
    · have H := H.2 c9
      refine am_R.next ((hp 63).trans rfl) rfl ?_
      refine am_R.next ((hp 64).trans rfl) rfl ?_
      refine am_R.next ((hp 65).trans rfl) rfl ?_
      refine am_R.next ((hp 66).trans rfl) rfl ?_
      refine am_R.next ((hp 67).trans rfl) rfl ?_
      obtain ⟨y7, ey7⟩ : ∃ z : Int, z = am_or x2 (am_shl 1 x3) := ⟨_, rfl⟩
      have H := H y7 ey7
      refine am_R.next (lv' := [some (.inr (.inr ((0 : Nat) : Int))), some (.inl x1), some (.inl y7), some (.inl x3)]) (st' := []) (h' := g4) (pc' := 69) ((hp 68).trans rfl) (by rw [ey7]; rfl) ?_
      obtain ⟨y8, ey8⟩ : ∃ z : Int, z = am_w (x3 + 1) := ⟨_, rfl⟩
      have H := H y8 ey8
      refine am_R.next (lv' := [some (.inr (.inr ((0 : Nat) : Int))), some (.inl x1), some (.inl y7), some (.inl y8)]) (st' := []) (h' := g4) (pc' := 72) ((hp 69).trans rfl) (by rw [ey8]; rfl) ?_
      refine am_R.next ((hp 72).trans rfl) rfl ?_
      exact H
theorem w_S_heard_0 {scr : Nat × (Nat → Int)} {d : Nat} {h : am_H} {Q : Option am_V → am_H → Prop} {x1 : Int} (hs : am_sc scr) (hw : wf h) (H : am_R (am_prog scr) d f_S_heardRefusal 0 [some (.inr (.inr ((0 : Nat) : Int))), some (.inl x1), none] [] h (fun v g1 => ∃ r2 : Int, v = some (.inl r2) ∧ wf g1 ∧ ((r2 = 0 → (am_R (am_prog scr) d f_Graph_prepare 0 [some (.inr (.inr ((30 : Nat) : Int))), some (.inr (.inr ((24 : Nat) : Int))), none, none, none] [] g1 (fun v g3 => v = none ∧ wf g3 ∧ ((0 ≤ x1 ∧ x1 < 4) ∧ (am_R (am_prog scr) d f_Tally_listen 0 [some (.inr (.inr ((43 : Nat) : Int))), some (.inr (.inr (((95 + 2 * x1.toNat) : Nat) : Int))), none, none] [] g3 (fun v g5 => v = none ∧ wf g5 ∧ (am_R (am_prog scr) d f_Tally_heardRows 0 [some (.inr (.inr ((43 : Nat) : Int)))] [] g5 (fun v g6 => ∃ r7 : Int, v = some (.inr (.inl r7)) ∧ wf g6 ∧ (Q (some (.inr (.inl r7))) g6))))))))) ∧ (¬ (r2 = 0) → (Q (some (.inr (.inl r2))) g1))))) : am_R (am_prog scr) (d + 1) f_S_heard 0 [some (.inr (.inr ((0 : Nat) : Int))), some (.inl x1), none] [] h Q := by
  have hp : ∀ k, (am_prog scr).1 f_S_heard k = c_S_heard k := fun _ => rfl
  refine am_R.next ((hp 0).trans rfl) rfl ?_
  refine am_R.next ((hp 1).trans rfl) rfl ?_
  refine r_cv (bs := [.inl x1]) (st' := []) ((hp 2).trans rfl) (hw.o (i := 0) (by decide) rfl) rfl rfl (Nat.le_of_ble_eq_true rfl) (Nat.le_of_ble_eq_true rfl) (am_R.post H (fun v g1 hq => ?_))
  obtain ⟨r2, rfl, hw, H⟩ := hq
  change am_R _ _ _ _ _ [.inl r2] _ _
  refine am_R.next (lv' := [some (.inr (.inr ((0 : Nat) : Int))), some (.inl x1), some (.inl r2)]) ((hp 5).trans rfl) rfl ?_
  refine am_R.next ((hp 6).trans rfl) rfl ?_
  refine r_if ((hp 7).trans rfl) (fun c8 => ?_) (fun c8 => ?_)
  · have H := H.1 c8
    refine am_R.next ((hp 13).trans rfl) rfl ?_
    refine r_getR ((hp 14).trans rfl) (hw.o (i := 0) (by decide) rfl) (hw.r wr_0_8) ?_
    refine am_R.next ((hp 17).trans rfl) rfl ?_
    refine r_getR ((hp 18).trans rfl) (hw.o (i := 0) (by decide) rfl) (hw.r wr_0_12) ?_
    refine r_cv (bs := [.inr (.inr ((24 : Nat) : Int))]) (st' := []) ((hp 21).trans rfl) (hw.o (i := 30) (by decide) rfl) rfl rfl (Nat.le_of_ble_eq_true rfl) (Nat.le_of_ble_eq_true rfl) (am_R.post H (fun v g3 hq => ?_))
    obtain ⟨rfl, hw, H⟩ := hq
    change am_R _ _ _ _ _ [] _ _
    refine am_R.next ((hp 24).trans rfl) rfl ?_
    refine r_getR ((hp 25).trans rfl) (hw.o (i := 0) (by decide) rfl) (hw.r wr_0_10) ?_
    refine am_R.next ((hp 28).trans rfl) rfl ?_
    refine r_getR ((hp 29).trans rfl) (hw.o (i := 0) (by decide) rfl) (hw.r wr_0_15) ?_
    refine am_R.next ((hp 32).trans rfl) rfl ?_
    obtain ⟨c4, H⟩ := H
    refine r_aald ((hp 33).trans rfl) (hw.a (i := 17) (by decide) rfl c4.1 c4.2) (tr_all hw c4).2 ?_
    refine r_cv (bs := [.inr (.inr (((95 + 2 * x1.toNat) : Nat) : Int))]) (st' := []) ((hp 34).trans rfl) (hw.o (i := 43) (by decide) rfl) rfl rfl (Nat.le_of_ble_eq_true rfl) (Nat.le_of_ble_eq_true rfl) (am_R.post H (fun v g5 hq => ?_))
    obtain ⟨rfl, hw, H⟩ := hq
    change am_R _ _ _ _ _ [] _ _
    refine am_R.next ((hp 37).trans rfl) rfl ?_
    refine r_getR ((hp 38).trans rfl) (hw.o (i := 0) (by decide) rfl) (hw.r wr_0_10) ?_
    refine r_cv (bs := []) (st' := []) ((hp 41).trans rfl) (hw.o (i := 43) (by decide) rfl) rfl rfl (Nat.le_of_ble_eq_true rfl) (Nat.le_of_ble_eq_true rfl) (am_R.post H (fun v g6 hq => ?_))
    obtain ⟨r7, rfl, hw, H⟩ := hq
    change am_R _ _ _ _ _ [.inr (.inl r7)] _ _
    exact am_R.ret ((hp 44).trans rfl) rfl H
  · have H := H.2 c8
    refine am_R.next ((hp 10).trans rfl) rfl ?_
    refine am_R.next ((hp 11).trans rfl) rfl ?_
    exact am_R.ret ((hp 12).trans rfl) rfl H
theorem w_S_heardBy_0 {scr : Nat × (Nat → Int)} {d : Nat} {h : am_H} {Q : Option am_V → am_H → Prop} {x1 x2 : Int} (hs : am_sc scr) (hw : wf h) (H : am_R (am_prog scr) d f_S_heardRefusal 0 [some (.inr (.inr ((0 : Nat) : Int))), some (.inl x1), none] [] h (fun v g1 => ∃ r2 : Int, v = some (.inl r2) ∧ wf g1 ∧ ((r2 = 0 → ((¬ (x2 < 0) → (am_R (am_prog scr) d f_Graph_prepare 0 [some (.inr (.inr ((30 : Nat) : Int))), some (.inr (.inr ((24 : Nat) : Int))), none, none, none] [] g1 (fun v g3 => v = none ∧ wf g3 ∧ ((0 ≤ x1 ∧ x1 < 4) ∧ (am_R (am_prog scr) d f_Tally_listen 0 [some (.inr (.inr ((43 : Nat) : Int))), some (.inr (.inr (((95 + 2 * x1.toNat) : Nat) : Int))), none, none] [] g3 (fun v g5 => v = none ∧ wf g5 ∧ ((0 ≤ x1 ∧ x1 < 4) ∧ (am_R (am_prog scr) d f_Tally_firstHeardDeed 0 [some (.inr (.inr ((43 : Nat) : Int))), some (.inr (.inr (((95 + 2 * x1.toNat) : Nat) : Int))), some (.inl x2), none, none] [] g5 (fun v g7 => ∃ r8 : Int, v = some (.inl r8) ∧ wf g7 ∧ (Q (some (.inl r8)) g7)))))))))) ∧ (x2 < 0 → (Q (some (.inl (-3))) g1)))) ∧ (¬ (r2 = 0) → (Q (some (.inl r2)) g1))))) : am_R (am_prog scr) (d + 1) f_S_heardBy 0 [some (.inr (.inr ((0 : Nat) : Int))), some (.inl x1), some (.inl x2), none] [] h Q := by
  have hp : ∀ k, (am_prog scr).1 f_S_heardBy k = c_S_heardBy k := fun _ => rfl
  refine am_R.next ((hp 0).trans rfl) rfl ?_
  refine am_R.next ((hp 1).trans rfl) rfl ?_
  refine r_cv (bs := [.inl x1]) (st' := []) ((hp 2).trans rfl) (hw.o (i := 0) (by decide) rfl) rfl rfl (Nat.le_of_ble_eq_true rfl) (Nat.le_of_ble_eq_true rfl) (am_R.post H (fun v g1 hq => ?_))
  obtain ⟨r2, rfl, hw, H⟩ := hq
  change am_R _ _ _ _ _ [.inl r2] _ _
  refine am_R.next (lv' := [some (.inr (.inr ((0 : Nat) : Int))), some (.inl x1), some (.inl x2), some (.inl r2)]) ((hp 5).trans rfl) rfl ?_
  refine am_R.next ((hp 6).trans rfl) rfl ?_
  refine r_if ((hp 7).trans rfl) (fun c10 => ?_) (fun c10 => ?_)
  · have H := H.1 c10
    refine am_R.next ((hp 12).trans rfl) rfl ?_
    refine r_if ((hp 13).trans rfl) (fun c9 => ?_) (fun c9 => ?_)
    · have H := H.1 c9
      refine am_R.next ((hp 19).trans rfl) rfl ?_
      refine r_getR ((hp 20).trans rfl) (hw.o (i := 0) (by decide) rfl) (hw.r wr_0_8) ?_
      refine am_R.next ((hp 23).trans rfl) rfl ?_
      refine r_getR ((hp 24).trans rfl) (hw.o (i := 0) (by decide) rfl) (hw.r wr_0_12) ?_
      refine r_cv (bs := [.inr (.inr ((24 : Nat) : Int))]) (st' := []) ((hp 27).trans rfl) (hw.o (i := 30) (by decide) rfl) rfl rfl (Nat.le_of_ble_eq_true rfl) (Nat.le_of_ble_eq_true rfl) (am_R.post H (fun v g3 hq => ?_))
      obtain ⟨rfl, hw, H⟩ := hq
      change am_R _ _ _ _ _ [] _ _
      refine am_R.next ((hp 30).trans rfl) rfl ?_
      refine r_getR ((hp 31).trans rfl) (hw.o (i := 0) (by decide) rfl) (hw.r wr_0_10) ?_
      refine am_R.next ((hp 34).trans rfl) rfl ?_
      refine r_getR ((hp 35).trans rfl) (hw.o (i := 0) (by decide) rfl) (hw.r wr_0_15) ?_
      refine am_R.next ((hp 38).trans rfl) rfl ?_
      obtain ⟨c4, H⟩ := H
      refine r_aald ((hp 39).trans rfl) (hw.a (i := 17) (by decide) rfl c4.1 c4.2) (tr_all hw c4).2 ?_
      refine r_cv (bs := [.inr (.inr (((95 + 2 * x1.toNat) : Nat) : Int))]) (st' := []) ((hp 40).trans rfl) (hw.o (i := 43) (by decide) rfl) rfl rfl (Nat.le_of_ble_eq_true rfl) (Nat.le_of_ble_eq_true rfl) (am_R.post H (fun v g5 hq => ?_))
      obtain ⟨rfl, hw, H⟩ := hq
      change am_R _ _ _ _ _ [] _ _
      refine am_R.next ((hp 43).trans rfl) rfl ?_
      refine r_getR ((hp 44).trans rfl) (hw.o (i := 0) (by decide) rfl) (hw.r wr_0_10) ?_
      refine am_R.next ((hp 47).trans rfl) rfl ?_
      refine r_getR ((hp 48).trans rfl) (hw.o (i := 0) (by decide) rfl) (hw.r wr_0_15) ?_
      refine am_R.next ((hp 51).trans rfl) rfl ?_
      obtain ⟨c6, H⟩ := H
      refine r_aald ((hp 52).trans rfl) (hw.a (i := 17) (by decide) rfl c6.1 c6.2) (tr_all hw c6).2 ?_
      refine am_R.next ((hp 53).trans rfl) rfl ?_
      refine r_cv (bs := [.inr (.inr (((95 + 2 * x1.toNat) : Nat) : Int)), .inl x2]) (st' := []) ((hp 54).trans rfl) (hw.o (i := 43) (by decide) rfl) rfl rfl (Nat.le_of_ble_eq_true rfl) (Nat.le_of_ble_eq_true rfl) (am_R.post H (fun v g7 hq => ?_))
      obtain ⟨r8, rfl, hw, H⟩ := hq
      change am_R _ _ _ _ _ [.inl r8] _ _
      exact am_R.ret ((hp 57).trans rfl) rfl H
    · have H := H.2 (Decidable.not_not.mp c9)
      refine am_R.next ((hp 16).trans rfl) rfl ?_
      exact am_R.ret ((hp 18).trans rfl) rfl H
  · have H := H.2 c10
    refine am_R.next ((hp 10).trans rfl) rfl ?_
    exact am_R.ret ((hp 11).trans rfl) rfl H
theorem w_S_suspects_0 {scr : Nat × (Nat → Int)} {d : Nat} {h : am_H} {Q : Option am_V → am_H → Prop} {x1 x2 : Int} (hs : am_sc scr) (hw : wf h) (H : am_R (am_prog scr) d f_S_heardRefusal 0 [some (.inr (.inr ((0 : Nat) : Int))), some (.inl x1), none] [] h (fun v g1 => ∃ r2 : Int, v = some (.inl r2) ∧ wf g1 ∧ ((r2 = 0 → ((¬ (x2 < 0) → ((0 ≤ x1 ∧ x1 < 4) ∧ ((x2 < (g1.2.2.2 (95 + 2 * x1.toNat) 2) → (am_R (am_prog scr) d f_Graph_prepare 0 [some (.inr (.inr ((30 : Nat) : Int))), some (.inr (.inr ((24 : Nat) : Int))), none, none, none] [] g1 (fun v g4 => v = none ∧ wf g4 ∧ ((0 ≤ x1 ∧ x1 < 4) ∧ (am_R (am_prog scr) d f_Tally_listen 0 [some (.inr (.inr ((43 : Nat) : Int))), some (.inr (.inr (((95 + 2 * x1.toNat) : Nat) : Int))), none, none] [] g4 (fun v g6 => v = none ∧ wf g6 ∧ ((0 ≤ x1 ∧ x1 < 4) ∧ (am_R (am_prog scr) d f_Tally_heardSnorers 0 [some (.inr (.inr ((43 : Nat) : Int))), some (.inr (.inr (((95 + 2 * x1.toNat) : Nat) : Int))), some (.inl x2), none, none, none, none] [] g6 (fun v g8 => ∃ r9 : Int, v = some (.inl r9) ∧ wf g8 ∧ (Q (some (.inl r9)) g8)))))))))) ∧ (¬ (x2 < (g1.2.2.2 (95 + 2 * x1.toNat) 2)) → (Q (some (.inl (-7))) g1))))) ∧ (x2 < 0 → (Q (some (.inl (-3))) g1)))) ∧ (¬ (r2 = 0) → (Q (some (.inl r2)) g1))))) : am_R (am_prog scr) (d + 1) f_S_suspects 0 [some (.inr (.inr ((0 : Nat) : Int))), some (.inl x1), some (.inl x2), none] [] h Q := by
  have hp : ∀ k, (am_prog scr).1 f_S_suspects k = c_S_suspects k := fun _ => rfl
  refine am_R.next ((hp 0).trans rfl) rfl ?_
  refine am_R.next ((hp 1).trans rfl) rfl ?_
  refine r_cv (bs := [.inl x1]) (st' := []) ((hp 2).trans rfl) (hw.o (i := 0) (by decide) rfl) rfl rfl (Nat.le_of_ble_eq_true rfl) (Nat.le_of_ble_eq_true rfl) (am_R.post H (fun v g1 hq => ?_))
  obtain ⟨r2, rfl, hw, H⟩ := hq
  change am_R _ _ _ _ _ [.inl r2] _ _
  refine am_R.next (lv' := [some (.inr (.inr ((0 : Nat) : Int))), some (.inl x1), some (.inl x2), some (.inl r2)]) ((hp 5).trans rfl) rfl ?_
  refine am_R.next ((hp 6).trans rfl) rfl ?_
  refine r_if ((hp 7).trans rfl) (fun c12 => ?_) (fun c12 => ?_)
  · have H := H.1 c12
    refine am_R.next ((hp 12).trans rfl) rfl ?_
    refine r_if ((hp 13).trans rfl) (fun c11 => ?_) (fun c11 => ?_)
    · have H := H.1 c11
      refine am_R.next ((hp 19).trans rfl) rfl ?_
      refine am_R.next ((hp 20).trans rfl) rfl ?_
      refine r_getR ((hp 21).trans rfl) (hw.o (i := 0) (by decide) rfl) (hw.r wr_0_15) ?_
      refine am_R.next ((hp 24).trans rfl) rfl ?_
      obtain ⟨c3, H⟩ := H
      refine r_aald ((hp 25).trans rfl) (hw.a (i := 17) (by decide) rfl c3.1 c3.2) (tr_all hw c3).2 ?_
      refine r_getI ((hp 26).trans rfl) (tr_o (tr_all hw c3).1 hw) ?_
      refine r_ic ((hp 29).trans rfl) (fun c10 => ?_) (fun c10 => ?_)
      · have H := H.1 c10
        refine am_R.next ((hp 35).trans rfl) rfl ?_
        refine r_getR ((hp 36).trans rfl) (hw.o (i := 0) (by decide) rfl) (hw.r wr_0_8) ?_
        refine am_R.next ((hp 39).trans rfl) rfl ?_
        refine r_getR ((hp 40).trans rfl) (hw.o (i := 0) (by decide) rfl) (hw.r wr_0_12) ?_
        refine r_cv (bs := [.inr (.inr ((24 : Nat) : Int))]) (st' := []) ((hp 43).trans rfl) (hw.o (i := 30) (by decide) rfl) rfl rfl (Nat.le_of_ble_eq_true rfl) (Nat.le_of_ble_eq_true rfl) (am_R.post H (fun v g4 hq => ?_))
        obtain ⟨rfl, hw, H⟩ := hq
        change am_R _ _ _ _ _ [] _ _
        refine am_R.next ((hp 46).trans rfl) rfl ?_
        refine r_getR ((hp 47).trans rfl) (hw.o (i := 0) (by decide) rfl) (hw.r wr_0_10) ?_
        refine am_R.next ((hp 50).trans rfl) rfl ?_
        refine r_getR ((hp 51).trans rfl) (hw.o (i := 0) (by decide) rfl) (hw.r wr_0_15) ?_
        refine am_R.next ((hp 54).trans rfl) rfl ?_
        obtain ⟨c5, H⟩ := H
        refine r_aald ((hp 55).trans rfl) (hw.a (i := 17) (by decide) rfl c5.1 c5.2) (tr_all hw c5).2 ?_
        refine r_cv (bs := [.inr (.inr (((95 + 2 * x1.toNat) : Nat) : Int))]) (st' := []) ((hp 56).trans rfl) (hw.o (i := 43) (by decide) rfl) rfl rfl (Nat.le_of_ble_eq_true rfl) (Nat.le_of_ble_eq_true rfl) (am_R.post H (fun v g6 hq => ?_))
        obtain ⟨rfl, hw, H⟩ := hq
        change am_R _ _ _ _ _ [] _ _
        refine am_R.next ((hp 59).trans rfl) rfl ?_
        refine r_getR ((hp 60).trans rfl) (hw.o (i := 0) (by decide) rfl) (hw.r wr_0_10) ?_
        refine am_R.next ((hp 63).trans rfl) rfl ?_
        refine r_getR ((hp 64).trans rfl) (hw.o (i := 0) (by decide) rfl) (hw.r wr_0_15) ?_
        refine am_R.next ((hp 67).trans rfl) rfl ?_
        obtain ⟨c7, H⟩ := H
        refine r_aald ((hp 68).trans rfl) (hw.a (i := 17) (by decide) rfl c7.1 c7.2) (tr_all hw c7).2 ?_
        refine am_R.next ((hp 69).trans rfl) rfl ?_
        refine r_cv (bs := [.inr (.inr (((95 + 2 * x1.toNat) : Nat) : Int)), .inl x2]) (st' := []) ((hp 70).trans rfl) (hw.o (i := 43) (by decide) rfl) rfl rfl (Nat.le_of_ble_eq_true rfl) (Nat.le_of_ble_eq_true rfl) (am_R.post H (fun v g8 hq => ?_))
        obtain ⟨r9, rfl, hw, H⟩ := hq
        change am_R _ _ _ _ _ [.inl r9] _ _
        exact am_R.ret ((hp 73).trans rfl) rfl H
      · have H := H.2 c10
        refine am_R.next ((hp 32).trans rfl) rfl ?_
        exact am_R.ret ((hp 34).trans rfl) rfl H
    · have H := H.2 (Decidable.not_not.mp c11)
      refine am_R.next ((hp 16).trans rfl) rfl ?_
      exact am_R.ret ((hp 18).trans rfl) rfl H
  · have H := H.2 c12
    refine am_R.next ((hp 10).trans rfl) rfl ?_
    exact am_R.ret ((hp 11).trans rfl) rfl H
theorem w_S_hushes_0 {scr : Nat × (Nat → Int)} {d : Nat} {h : am_H} {Q : Option am_V → am_H → Prop} {x1 : Int} (hs : am_sc scr) (hw : wf h) (H : am_R (am_prog scr) d f_S_saidRefusal 0 [some (.inr (.inr ((0 : Nat) : Int))), some (.inl x1), none] [] h (fun v g1 => ∃ r2 : Int, v = some (.inl r2) ∧ wf g1 ∧ ((r2 = 0 → ((0 ≤ x1 ∧ x1 < 4) ∧ (am_R (am_prog scr) d f_S_hushesBy 0 [some (.inr (.inr ((0 : Nat) : Int))), some (.inr (.inr (((95 + 2 * x1.toNat) : Nat) : Int))), none, none, none] [] g1 (fun v g4 => ∃ r5 : Int, v = some (.inl r5) ∧ wf g4 ∧ (Q (some (.inl r5)) g4))))) ∧ (¬ (r2 = 0) → (Q (some (.inl r2)) g1))))) : am_R (am_prog scr) (d + 1) f_S_hushes 0 [some (.inr (.inr ((0 : Nat) : Int))), some (.inl x1), none] [] h Q := by
  have hp : ∀ k, (am_prog scr).1 f_S_hushes k = c_S_hushes k := fun _ => rfl
  refine am_R.next ((hp 0).trans rfl) rfl ?_
  refine am_R.next ((hp 1).trans rfl) rfl ?_
  refine r_cv (bs := [.inl x1]) (st' := []) ((hp 2).trans rfl) (hw.o (i := 0) (by decide) rfl) rfl rfl (Nat.le_of_ble_eq_true rfl) (Nat.le_of_ble_eq_true rfl) (am_R.post H (fun v g1 hq => ?_))
  obtain ⟨r2, rfl, hw, H⟩ := hq
  change am_R _ _ _ _ _ [.inl r2] _ _
  refine am_R.next (lv' := [some (.inr (.inr ((0 : Nat) : Int))), some (.inl x1), some (.inl r2)]) ((hp 5).trans rfl) rfl ?_
  refine am_R.next ((hp 6).trans rfl) rfl ?_
  refine r_if ((hp 7).trans rfl) (fun c6 => ?_) (fun c6 => ?_)
  · have H := H.1 c6
    refine am_R.next ((hp 14).trans rfl) rfl ?_
    refine am_R.next ((hp 15).trans rfl) rfl ?_
    refine r_getR ((hp 16).trans rfl) (hw.o (i := 0) (by decide) rfl) (hw.r wr_0_15) ?_
    refine am_R.next ((hp 19).trans rfl) rfl ?_
    obtain ⟨c3, H⟩ := H
    refine r_aald ((hp 20).trans rfl) (hw.a (i := 17) (by decide) rfl c3.1 c3.2) (tr_all hw c3).2 ?_
    refine r_cv (bs := [.inr (.inr (((95 + 2 * x1.toNat) : Nat) : Int))]) (st' := []) ((hp 21).trans rfl) (hw.o (i := 0) (by decide) rfl) rfl rfl (Nat.le_of_ble_eq_true rfl) (Nat.le_of_ble_eq_true rfl) (am_R.post H (fun v g4 hq => ?_))
    obtain ⟨r5, rfl, hw, H⟩ := hq
    change am_R _ _ _ _ _ [.inl r5] _ _
    exact am_R.ret ((hp 24).trans rfl) rfl H
  · have H := H.2 c6
    refine am_R.next ((hp 10).trans rfl) rfl ?_
    refine am_R.next ((hp 11).trans rfl) rfl ?_
    exact am_R.ret ((hp 24).trans rfl) rfl H
theorem w_S_attempt_0 {scr : Nat × (Nat → Int)} {d : Nat} {h : am_H} {Q : Option am_V → am_H → Prop} {x1 : Int} (hs : am_sc scr) (hw : wf h) (H : am_R (am_prog scr) d f_S_saidRefusal 0 [some (.inr (.inr ((0 : Nat) : Int))), some (.inl x1), none] [] h (fun v g1 => ∃ r2 : Int, v = some (.inl r2) ∧ wf g1 ∧ ((r2 = 0 → ((0 ≤ x1 ∧ x1 < 4) ∧ (am_R (am_prog scr) d f_S_hushesBy 0 [some (.inr (.inr ((0 : Nat) : Int))), some (.inr (.inr (((95 + 2 * x1.toNat) : Nat) : Int))), none, none, none] [] g1 (fun v g4 => ∃ r5 : Int, v = some (.inl r5) ∧ wf g4 ∧ ((¬ (r5 = 0) → (am_R (am_prog scr) d f_S_largestGroup 0 [some (.inr (.inr ((0 : Nat) : Int))), some (.inl r5), some (.inl 0), none, none, none, none] [] g4 (fun v g6 => ∃ r7 : Int, v = some (.inl r7) ∧ wf g6 ∧ (am_R (am_prog scr) (d + 1) f_S_attempt 43 [some (.inr (.inr ((0 : Nat) : Int))), some (.inl x1), some (.inl r2), some (.inl r5), some (.inl 0), some (.inl r7), some (.inl 1), none] [] g6 Q)))) ∧ (r5 = 0 → (Q (some (.inl (-1))) g4))))))) ∧ (¬ (r2 = 0) → (Q (some (.inl r2)) g1))))) : am_R (am_prog scr) (d + 1) f_S_attempt 0 [some (.inr (.inr ((0 : Nat) : Int))), some (.inl x1), none, none, none, none, none, none] [] h Q := by
  have hp : ∀ k, (am_prog scr).1 f_S_attempt k = c_S_attempt k := fun _ => rfl
  refine am_R.next ((hp 0).trans rfl) rfl ?_
  refine am_R.next ((hp 1).trans rfl) rfl ?_
  refine r_cv (bs := [.inl x1]) (st' := []) ((hp 2).trans rfl) (hw.o (i := 0) (by decide) rfl) rfl rfl (Nat.le_of_ble_eq_true rfl) (Nat.le_of_ble_eq_true rfl) (am_R.post H (fun v g1 hq => ?_))
  obtain ⟨r2, rfl, hw, H⟩ := hq
  change am_R _ _ _ _ _ [.inl r2] _ _
  refine am_R.next (lv' := [some (.inr (.inr ((0 : Nat) : Int))), some (.inl x1), some (.inl r2), none, none, none, none, none]) ((hp 5).trans rfl) rfl ?_
  refine am_R.next ((hp 6).trans rfl) rfl ?_
  refine r_if ((hp 7).trans rfl) (fun c9 => ?_) (fun c9 => ?_)
  · have H := H.1 c9
    refine am_R.next ((hp 12).trans rfl) rfl ?_
    refine am_R.next ((hp 13).trans rfl) rfl ?_
    refine r_getR ((hp 14).trans rfl) (hw.o (i := 0) (by decide) rfl) (hw.r wr_0_15) ?_
    refine am_R.next ((hp 17).trans rfl) rfl ?_
    obtain ⟨c3, H⟩ := H
    refine r_aald ((hp 18).trans rfl) (hw.a (i := 17) (by decide) rfl c3.1 c3.2) (tr_all hw c3).2 ?_
    refine r_cv (bs := [.inr (.inr (((95 + 2 * x1.toNat) : Nat) : Int))]) (st' := []) ((hp 19).trans rfl) (hw.o (i := 0) (by decide) rfl) rfl rfl (Nat.le_of_ble_eq_true rfl) (Nat.le_of_ble_eq_true rfl) (am_R.post H (fun v g4 hq => ?_))
    obtain ⟨r5, rfl, hw, H⟩ := hq
    change am_R _ _ _ _ _ [.inl r5] _ _
    refine am_R.next (lv' := [some (.inr (.inr ((0 : Nat) : Int))), some (.inl x1), some (.inl r2), some (.inl r5), none, none, none, none]) ((hp 22).trans rfl) rfl ?_
    refine am_R.next ((hp 23).trans rfl) rfl ?_
    refine r_if ((hp 24).trans rfl) (fun c8 => ?_) (fun c8 => ?_)
    · have H := H.1 c8
      refine am_R.next ((hp 29).trans rfl) rfl ?_
      refine am_R.next (lv' := [some (.inr (.inr ((0 : Nat) : Int))), some (.inl x1), some (.inl r2), some (.inl r5), some (.inl 0), none, none, none]) ((hp 30).trans rfl) rfl ?_
      refine am_R.next ((hp 32).trans rfl) rfl ?_
      refine am_R.next ((hp 33).trans rfl) rfl ?_
      refine am_R.next ((hp 34).trans rfl) rfl ?_
      refine r_cv (bs := [.inl r5, .inl 0]) (st' := []) ((hp 35).trans rfl) (hw.o (i := 0) (by decide) rfl) rfl rfl (Nat.le_of_ble_eq_true rfl) (Nat.le_of_ble_eq_true rfl) (am_R.post H (fun v g6 hq => ?_))
      obtain ⟨r7, rfl, hw, H⟩ := hq
      change am_R _ _ _ _ _ [.inl r7] _ _
      refine am_R.next (lv' := [some (.inr (.inr ((0 : Nat) : Int))), some (.inl x1), some (.inl r2), some (.inl r5), some (.inl 0), some (.inl r7), none, none]) ((hp 38).trans rfl) rfl ?_
      refine am_R.next ((hp 40).trans rfl) rfl ?_
      refine am_R.next (lv' := [some (.inr (.inr ((0 : Nat) : Int))), some (.inl x1), some (.inl r2), some (.inl r5), some (.inl 0), some (.inl r7), some (.inl 1), none]) ((hp 41).trans rfl) rfl ?_
      exact H
    · have H := H.2 (Decidable.not_not.mp c8)
      refine am_R.next ((hp 27).trans rfl) rfl ?_
      exact am_R.ret ((hp 28).trans rfl) rfl H
  · have H := H.2 c9
    refine am_R.next ((hp 10).trans rfl) rfl ?_
    exact am_R.ret ((hp 11).trans rfl) rfl H
theorem w_S_attempt_43 {scr : Nat × (Nat → Int)} {d : Nat} {h : am_H} {Q : Option am_V → am_H → Prop} {x1 x2 x3 x4 x5 x6 : Int} (hs : am_sc scr) (hw : wf h) (H : am_isO h (h.2.2.2 24 0) 1 ∧ (((h.2.2.2 ((h.2.2.2 24 0).toNat) 4) < x6 → (Q (some (.inl x4)) h)) ∧ (¬ ((h.2.2.2 ((h.2.2.2 24 0).toNat) 4) < x6) → (am_R (am_prog scr) d f_S_largestGroup 0 [some (.inr (.inr ((0 : Nat) : Int))), some (.inl x3), some (.inl x6), none, none, none, none] [] h (fun v g2 => ∃ r3 : Int, v = some (.inl r3) ∧ wf g2 ∧ ((¬ (r3 < x5) → (∀ y4 : Int, y4 = am_w (x6 + 1) → (am_R (am_prog scr) (d + 1) f_S_attempt 43 [some (.inr (.inr ((0 : Nat) : Int))), some (.inl x1), some (.inl x2), some (.inl x3), some (.inl x4), some (.inl x5), some (.inl y4), none] [] g2 Q))) ∧ (r3 < x5 → (∀ y5 : Int, y5 = am_w (x6 + 1) → (am_R (am_prog scr) (d + 1) f_S_attempt 43 [some (.inr (.inr ((0 : Nat) : Int))), some (.inl x1), some (.inl x2), some (.inl x3), some (.inl x6), some (.inl r3), some (.inl y5), none] [] g2 Q))))))))) : am_R (am_prog scr) (d + 1) f_S_attempt 43 [some (.inr (.inr ((0 : Nat) : Int))), some (.inl x1), some (.inl x2), some (.inl x3), some (.inl x4), some (.inl x5), some (.inl x6), none] [] h Q := by
  have hp : ∀ k, (am_prog scr).1 f_S_attempt k = c_S_attempt k := fun _ => rfl
  refine am_R.next ((hp 43).trans rfl) rfl ?_
  refine am_R.next ((hp 45).trans rfl) rfl ?_
  refine r_getR ((hp 46).trans rfl) (hw.o (i := 0) (by decide) rfl) (hw.r wr_0_12) ?_
  refine r_getR ((hp 49).trans rfl) (hw.o (i := 24) (by decide) rfl) rfl ?_
  obtain ⟨c1, H⟩ := H
  refine r_getI ((hp 52).trans rfl) c1 ?_
  refine r_ic ((hp 55).trans rfl) (fun c7 => ?_) (fun c7 => ?_)
  · have H := H.1 c7
    refine am_R.next ((hp 88).trans rfl) rfl ?_
    exact am_R.ret ((hp 90).trans rfl) rfl H
  · have H := H.2 c7
    refine am_R.next ((hp 58).trans rfl) rfl ?_
    refine am_R.next ((hp 59).trans rfl) rfl ?_
    refine am_R.next ((hp 60).trans rfl) rfl ?_
    refine r_cv (bs := [.inl x3, .inl x6]) (st' := []) ((hp 62).trans rfl) (hw.o (i := 0) (by decide) rfl) rfl rfl (Nat.le_of_ble_eq_true rfl) (Nat.le_of_ble_eq_true rfl) (am_R.post H (fun v g2 hq => ?_))
    obtain ⟨r3, rfl, hw, H⟩ := hq
    change am_R _ _ _ _ _ [.inl r3] _ _
    refine am_R.next (lv' := [some (.inr (.inr ((0 : Nat) : Int))), some (.inl x1), some (.inl x2), some (.inl x3), some (.inl x4), some (.inl x5), some (.inl x6), some (.inl r3)]) ((hp 65).trans rfl) rfl ?_
    refine am_R.next ((hp 67).trans rfl) rfl ?_
    refine am_R.next ((hp 69).trans rfl) rfl ?_
    refine r_ic ((hp 71).trans rfl) (fun c6 => ?_) (fun c6 => ?_)
    · have H := H.1 c6
      obtain ⟨y4, ey4⟩ : ∃ z : Int, z = am_w (x6 + 1) := ⟨_, rfl⟩
      have H := H y4 ey4
      refine am_R.next (lv' := [some (.inr (.inr ((0 : Nat) : Int))), some (.inl x1), some (.inl x2), some (.inl x3), some (.inl x4), some (.inl x5), some (.inl y4), some (.inl r3)]) (st' := []) (h' := g2) (pc' := 85) ((hp 82).trans rfl) (by rw [ey4]; rfl) ?_
      refine am_R.next ((hp 85).trans rfl) rfl ?_
      exact r_le hs in_168 (le_k (le_k (le_k (le_k (le_k (le_k (le_k (le_d le_n)))))))) H
    · have H := H.2 (Decidable.not_not.mp c6)
      refine am_R.next ((hp 74).trans rfl) rfl ?_
      refine am_R.next (lv' := [some (.inr (.inr ((0 : Nat) : Int))), some (.inl x1), some (.inl x2), some (.inl x3), some (.inl x4), some (.inl r3), some (.inl x6), some (.inl r3)]) ((hp 76).trans rfl) rfl ?_
      refine am_R.next ((hp 78).trans rfl) rfl ?_
      refine am_R.next (lv' := [some (.inr (.inr ((0 : Nat) : Int))), some (.inl x1), some (.inl x2), some (.inl x3), some (.inl x6), some (.inl r3), some (.inl x6), some (.inl r3)]) ((hp 80).trans rfl) rfl ?_
      obtain ⟨y5, ey5⟩ : ∃ z : Int, z = am_w (x6 + 1) := ⟨_, rfl⟩
      have H := H y5 ey5
      refine am_R.next (lv' := [some (.inr (.inr ((0 : Nat) : Int))), some (.inl x1), some (.inl x2), some (.inl x3), some (.inl x6), some (.inl r3), some (.inl y5), some (.inl r3)]) (st' := []) (h' := g2) (pc' := 85) ((hp 82).trans rfl) (by rw [ey5]; rfl) ?_
      refine am_R.next ((hp 85).trans rfl) rfl ?_
      exact r_le hs in_168 (le_k (le_k (le_k (le_k (le_k (le_k (le_k (le_d le_n)))))))) H
theorem w_S_heardRefusal_0 {scr : Nat × (Nat → Int)} {d : Nat} {h : am_H} {Q : Option am_V → am_H → Prop} {x1 : Int} (hs : am_sc scr) (hw : wf h) (H : am_R (am_prog scr) d f_S_trayRefusal 0 [some (.inr (.inr ((0 : Nat) : Int))), some (.inl x1)] [] h (fun v g1 => ∃ r2 : Int, v = some (.inl r2) ∧ wf g1 ∧ ((r2 = 0 → ((0 ≤ x1 ∧ x1 < 4) ∧ (am_isO g1 (g1.2.2.2 24 0) 1 ∧ (am_R (am_prog scr) d f_Tray_rowRefusal 0 [some (.inr (.inr (((95 + 2 * x1.toNat) : Nat) : Int))), some (.inl (-1)), some (.inl (g1.2.2.2 ((g1.2.2.2 24 0).toNat) 2)), none] [] g1 (fun v g5 => ∃ r6 : Int, v = some (.inl r6) ∧ wf g5 ∧ (Q (some (.inl r6)) g5)))))) ∧ (¬ (r2 = 0) → (Q (some (.inl r2)) g1))))) : am_R (am_prog scr) (d + 1) f_S_heardRefusal 0 [some (.inr (.inr ((0 : Nat) : Int))), some (.inl x1), none] [] h Q := by
  have hp : ∀ k, (am_prog scr).1 f_S_heardRefusal k = c_S_heardRefusal k := fun _ => rfl
  refine am_R.next ((hp 0).trans rfl) rfl ?_
  refine am_R.next ((hp 1).trans rfl) rfl ?_
  refine r_cv (bs := [.inl x1]) (st' := []) ((hp 2).trans rfl) (hw.o (i := 0) (by decide) rfl) rfl rfl (Nat.le_of_ble_eq_true rfl) (Nat.le_of_ble_eq_true rfl) (am_R.post H (fun v g1 hq => ?_))
  obtain ⟨r2, rfl, hw, H⟩ := hq
  change am_R _ _ _ _ _ [.inl r2] _ _
  refine am_R.next (lv' := [some (.inr (.inr ((0 : Nat) : Int))), some (.inl x1), some (.inl r2)]) ((hp 5).trans rfl) rfl ?_
  refine am_R.next ((hp 6).trans rfl) rfl ?_
  refine r_if ((hp 7).trans rfl) (fun c7 => ?_) (fun c7 => ?_)
  · have H := H.1 c7
    refine am_R.next ((hp 14).trans rfl) rfl ?_
    refine r_getR ((hp 15).trans rfl) (hw.o (i := 0) (by decide) rfl) (hw.r wr_0_15) ?_
    refine am_R.next ((hp 18).trans rfl) rfl ?_
    obtain ⟨c3, H⟩ := H
    refine r_aald ((hp 19).trans rfl) (hw.a (i := 17) (by decide) rfl c3.1 c3.2) (tr_all hw c3).2 ?_
    refine am_R.next ((hp 20).trans rfl) rfl ?_
    refine am_R.next ((hp 21).trans rfl) rfl ?_
    refine r_getR ((hp 22).trans rfl) (hw.o (i := 0) (by decide) rfl) (hw.r wr_0_12) ?_
    refine r_getR ((hp 25).trans rfl) (hw.o (i := 24) (by decide) rfl) rfl ?_
    obtain ⟨c4, H⟩ := H
    refine r_getI ((hp 28).trans rfl) c4 ?_
    refine r_cv (bs := [.inl (-1), .inl (g1.2.2.2 ((g1.2.2.2 24 0).toNat) 2)]) (st' := []) ((hp 31).trans rfl) (tr_o (tr_all hw c3).1 hw) rfl rfl (Nat.le_of_ble_eq_true rfl) (Nat.le_of_ble_eq_true rfl) (am_R.post H (fun v g5 hq => ?_))
    obtain ⟨r6, rfl, hw, H⟩ := hq
    change am_R _ _ _ _ _ [.inl r6] _ _
    exact am_R.ret ((hp 34).trans rfl) rfl H
  · have H := H.2 c7
    refine am_R.next ((hp 10).trans rfl) rfl ?_
    refine am_R.next ((hp 11).trans rfl) rfl ?_
    exact am_R.ret ((hp 34).trans rfl) rfl H
theorem w_S_saidRefusal_0 {scr : Nat × (Nat → Int)} {d : Nat} {h : am_H} {Q : Option am_V → am_H → Prop} {x1 : Int} (hs : am_sc scr) (hw : wf h) (H : am_R (am_prog scr) d f_S_trayRefusal 0 [some (.inr (.inr ((0 : Nat) : Int))), some (.inl x1)] [] h (fun v g1 => ∃ r2 : Int, v = some (.inl r2) ∧ wf g1 ∧ ((r2 = 0 → ((0 ≤ x1 ∧ x1 < 4) ∧ (am_isO g1 (g1.2.2.2 24 0) 1 ∧ (am_R (am_prog scr) d f_Tray_rowRefusal 0 [some (.inr (.inr (((95 + 2 * x1.toNat) : Nat) : Int))), some (.inl 0), some (.inl (g1.2.2.2 ((g1.2.2.2 24 0).toNat) 4)), none] [] g1 (fun v g5 => ∃ r6 : Int, v = some (.inl r6) ∧ wf g5 ∧ (Q (some (.inl r6)) g5)))))) ∧ (¬ (r2 = 0) → (Q (some (.inl r2)) g1))))) : am_R (am_prog scr) (d + 1) f_S_saidRefusal 0 [some (.inr (.inr ((0 : Nat) : Int))), some (.inl x1), none] [] h Q := by
  have hp : ∀ k, (am_prog scr).1 f_S_saidRefusal k = c_S_saidRefusal k := fun _ => rfl
  refine am_R.next ((hp 0).trans rfl) rfl ?_
  refine am_R.next ((hp 1).trans rfl) rfl ?_
  refine r_cv (bs := [.inl x1]) (st' := []) ((hp 2).trans rfl) (hw.o (i := 0) (by decide) rfl) rfl rfl (Nat.le_of_ble_eq_true rfl) (Nat.le_of_ble_eq_true rfl) (am_R.post H (fun v g1 hq => ?_))
  obtain ⟨r2, rfl, hw, H⟩ := hq
  change am_R _ _ _ _ _ [.inl r2] _ _
  refine am_R.next (lv' := [some (.inr (.inr ((0 : Nat) : Int))), some (.inl x1), some (.inl r2)]) ((hp 5).trans rfl) rfl ?_
  refine am_R.next ((hp 6).trans rfl) rfl ?_
  refine r_if ((hp 7).trans rfl) (fun c7 => ?_) (fun c7 => ?_)
  · have H := H.1 c7
    refine am_R.next ((hp 14).trans rfl) rfl ?_
    refine r_getR ((hp 15).trans rfl) (hw.o (i := 0) (by decide) rfl) (hw.r wr_0_15) ?_
    refine am_R.next ((hp 18).trans rfl) rfl ?_
    obtain ⟨c3, H⟩ := H
    refine r_aald ((hp 19).trans rfl) (hw.a (i := 17) (by decide) rfl c3.1 c3.2) (tr_all hw c3).2 ?_
    refine am_R.next ((hp 20).trans rfl) rfl ?_
    refine am_R.next ((hp 21).trans rfl) rfl ?_
    refine r_getR ((hp 22).trans rfl) (hw.o (i := 0) (by decide) rfl) (hw.r wr_0_12) ?_
    refine r_getR ((hp 25).trans rfl) (hw.o (i := 24) (by decide) rfl) rfl ?_
    obtain ⟨c4, H⟩ := H
    refine r_getI ((hp 28).trans rfl) c4 ?_
    refine r_cv (bs := [.inl 0, .inl (g1.2.2.2 ((g1.2.2.2 24 0).toNat) 4)]) (st' := []) ((hp 31).trans rfl) (tr_o (tr_all hw c3).1 hw) rfl rfl (Nat.le_of_ble_eq_true rfl) (Nat.le_of_ble_eq_true rfl) (am_R.post H (fun v g5 hq => ?_))
    obtain ⟨r6, rfl, hw, H⟩ := hq
    change am_R _ _ _ _ _ [.inl r6] _ _
    exact am_R.ret ((hp 34).trans rfl) rfl H
  · have H := H.2 c7
    refine am_R.next ((hp 10).trans rfl) rfl ?_
    refine am_R.next ((hp 11).trans rfl) rfl ?_
    exact am_R.ret ((hp 34).trans rfl) rfl H
theorem w_S_hushesBy_0 {scr : Nat × (Nat → Int)} {d : Nat} {h : am_H} {Q : Option am_V → am_H → Prop} {t1 : Nat} (ht1 : t1 ∈ TR) (hs : am_sc scr) (hw : wf h) (H : am_R (am_prog scr) (d + 1) f_S_hushesBy 4 [some (.inr (.inr ((0 : Nat) : Int))), some (.inr (.inr ((t1 : Nat) : Int))), some (.inl 0), some (.inl 0), none] [] h Q) : am_R (am_prog scr) (d + 1) f_S_hushesBy 0 [some (.inr (.inr ((0 : Nat) : Int))), some (.inr (.inr ((t1 : Nat) : Int))), none, none, none] [] h Q := by
  have hp : ∀ k, (am_prog scr).1 f_S_hushesBy k = c_S_hushesBy k := fun _ => rfl
  refine am_R.next ((hp 0).trans rfl) rfl ?_
  refine am_R.next (lv' := [some (.inr (.inr ((0 : Nat) : Int))), some (.inr (.inr ((t1 : Nat) : Int))), some (.inl 0), none, none]) ((hp 1).trans rfl) rfl ?_
  refine am_R.next ((hp 2).trans rfl) rfl ?_
  refine am_R.next (lv' := [some (.inr (.inr ((0 : Nat) : Int))), some (.inr (.inr ((t1 : Nat) : Int))), some (.inl 0), some (.inl 0), none]) ((hp 3).trans rfl) rfl ?_
  exact H
theorem w_S_hushesBy_4 {scr : Nat × (Nat → Int)} {d : Nat} {h : am_H} {Q : Option am_V → am_H → Prop} {x2 x3 : Int} {t1 : Nat} (ht1 : t1 ∈ TR) (hs : am_sc scr) (hw : wf h) (H : (¬ (x3 < 10) → (Q (some (.inl x2)) h)) ∧ (x3 < 10 → (am_R (am_prog scr) d f_Play_takeFrom 0 [some (.inr (.inr ((27 : Nat) : Int))), some (.inr (.inr ((24 : Nat) : Int)))] [] h (fun v g1 => v = none ∧ wf g1 ∧ (∀ h2 : am_H, h2 = am_put g1 27 3 x3 → (am_R (am_prog scr) (d + 1) f_S_hushesBy 32 [some (.inr (.inr ((0 : Nat) : Int))), some (.inr (.inr ((t1 : Nat) : Int))), some (.inl x2), some (.inl x3), some (.inl 0)] [] h2 Q)))))) : am_R (am_prog scr) (d + 1) f_S_hushesBy 4 [some (.inr (.inr ((0 : Nat) : Int))), some (.inr (.inr ((t1 : Nat) : Int))), some (.inl x2), some (.inl x3), none] [] h Q := by
  have hp : ∀ k, (am_prog scr).1 f_S_hushesBy k = c_S_hushesBy k := fun _ => rfl
  refine am_R.next ((hp 4).trans rfl) rfl ?_
  refine am_R.next ((hp 5).trans rfl) rfl ?_
  refine r_ic ((hp 7).trans rfl) (fun c3 => ?_) (fun c3 => ?_)
  · have H := H.1 c3
    refine am_R.next ((hp 102).trans rfl) rfl ?_
    exact am_R.ret ((hp 103).trans rfl) rfl H
  · have H := H.2 (Decidable.not_not.mp c3)
    refine am_R.next ((hp 10).trans rfl) rfl ?_
    refine r_getR ((hp 11).trans rfl) (hw.o (i := 0) (by decide) rfl) (hw.r wr_0_13) ?_
    refine am_R.next ((hp 14).trans rfl) rfl ?_
    refine r_getR ((hp 15).trans rfl) (hw.o (i := 0) (by decide) rfl) (hw.r wr_0_12) ?_
    refine r_cv (bs := [.inr (.inr ((24 : Nat) : Int))]) (st' := []) ((hp 18).trans rfl) (hw.o (i := 27) (by decide) rfl) rfl rfl (Nat.le_of_ble_eq_true rfl) (Nat.le_of_ble_eq_true rfl) (am_R.post H (fun v g1 hq => ?_))
    obtain ⟨rfl, hw, H⟩ := hq
    change am_R _ _ _ _ _ [] _ _
    refine am_R.next ((hp 21).trans rfl) rfl ?_
    refine r_getR ((hp 22).trans rfl) (hw.o (i := 0) (by decide) rfl) (hw.r wr_0_13) ?_
    refine am_R.next ((hp 25).trans rfl) rfl ?_
    obtain ⟨h2, eh2⟩ : ∃ z : am_H, z = am_put g1 27 3 x3 := ⟨_, rfl⟩
    have H := H h2 eh2
    refine r_putI ((hp 26).trans rfl) (hw.o (i := 27) (by decide) rfl) ?_
    have hw : wf h2 := by rw [eh2]; exact hw.put np_27_3
    change am_R _ _ _ _ _ _ (am_put g1 27 3 x3) _
    rw [← eh2]
    refine am_R.next ((hp 29).trans rfl) rfl ?_
    refine am_R.next (lv' := [some (.inr (.inr ((0 : Nat) : Int))), some (.inr (.inr ((t1 : Nat) : Int))), some (.inl x2), some (.inl x3), some (.inl 0)]) ((hp 30).trans rfl) rfl ?_
    exact H
theorem w_S_hushesBy_32 {scr : Nat × (Nat → Int)} {d : Nat} {h : am_H} {Q : Option am_V → am_H → Prop} {x2 x3 x4 : Int} {t1 : Nat} (ht1 : t1 ∈ TR) (hs : am_sc scr) (hw : wf h) (H : (¬ (x4 < (h.2.2.2 t1 2)) → (am_R (am_prog scr) (d + 1) f_S_hushesBy 81 [some (.inr (.inr ((0 : Nat) : Int))), some (.inr (.inr ((t1 : Nat) : Int))), some (.inl x2), some (.inl x3), some (.inl x4)] [] h Q)) ∧ (x4 < (h.2.2.2 t1 2) → (am_R (am_prog scr) d f_Play_goesOn 0 [some (.inr (.inr ((27 : Nat) : Int)))] [] h (fun v g1 => ∃ r2 : Int, v = some (.inl r2) ∧ wf g1 ∧ ((r2 = 0 → (am_R (am_prog scr) (d + 1) f_S_hushesBy 81 [some (.inr (.inr ((0 : Nat) : Int))), some (.inr (.inr ((t1 : Nat) : Int))), some (.inl x2), some (.inl x3), some (.inl x4)] [] g1 Q)) ∧ (¬ (r2 = 0) → (am_R (am_prog scr) d f_Stage_step 0 [some (.inr (.inr ((9 : Nat) : Int))), some (.inr (.inr ((27 : Nat) : Int))), some (.inl (-1)), none, none, none, none] [] g1 (fun v g3 => ∃ r4 : Int, v = some (.inl r4) ∧ wf g3 ∧ ((0 ≤ x4 ∧ x4 < 40) ∧ ((¬ (r4 = (g3.2.2.2 (t1 + 1) x4.toNat)) → (am_R (am_prog scr) (d + 1) f_S_hushesBy 81 [some (.inr (.inr ((0 : Nat) : Int))), some (.inr (.inr ((t1 : Nat) : Int))), some (.inl x2), some (.inl x3), some (.inl x4)] [] g3 Q)) ∧ (r4 = (g3.2.2.2 (t1 + 1) x4.toNat) → (∀ y6 : Int, y6 = am_w (x4 + 1) → (am_R (am_prog scr) (d + 1) f_S_hushesBy 32 [some (.inr (.inr ((0 : Nat) : Int))), some (.inr (.inr ((t1 : Nat) : Int))), some (.inl x2), some (.inl x3), some (.inl y6)] [] g3 Q))))))))))))) : am_R (am_prog scr) (d + 1) f_S_hushesBy 32 [some (.inr (.inr ((0 : Nat) : Int))), some (.inr (.inr ((t1 : Nat) : Int))), some (.inl x2), some (.inl x3), some (.inl x4)] [] h Q := by
  have hp : ∀ k, (am_prog scr).1 f_S_hushesBy k = c_S_hushesBy k := fun _ => rfl
  refine am_R.next ((hp 32).trans rfl) rfl ?_
  refine am_R.next ((hp 34).trans rfl) rfl ?_
  refine r_getI ((hp 35).trans rfl) (tr_o ht1 hw) ?_
  refine r_ic ((hp 38).trans rfl) (fun c9 => ?_) (fun c9 => ?_)
  · have H := H.1 c9
    exact H
  · have H := H.2 (Decidable.not_not.mp c9)
    refine am_R.next ((hp 41).trans rfl) rfl ?_
    refine r_getR ((hp 42).trans rfl) (hw.o (i := 0) (by decide) rfl) (hw.r wr_0_13) ?_
    refine r_cv (bs := []) (st' := []) ((hp 45).trans rfl) (hw.o (i := 27) (by decide) rfl) rfl rfl (Nat.le_of_ble_eq_true rfl) (Nat.le_of_ble_eq_true rfl) (am_R.post H (fun v g1 hq => ?_))
    obtain ⟨r2, rfl, hw, H⟩ := hq
    change am_R _ _ _ _ _ [.inl r2] _ _
    refine r_if ((hp 48).trans rfl) (fun c8 => ?_) (fun c8 => ?_)
    · have H := H.1 c8
      exact H
    · have H := H.2 c8
      refine am_R.next ((hp 51).trans rfl) rfl ?_
      refine r_getR ((hp 52).trans rfl) (hw.o (i := 0) (by decide) rfl) (hw.r wr_0_7) ?_
      refine am_R.next ((hp 55).trans rfl) rfl ?_
      refine r_getR ((hp 56).trans rfl) (hw.o (i := 0) (by decide) rfl) (hw.r wr_0_13) ?_
      refine am_R.next ((hp 59).trans rfl) rfl ?_
      refine r_cv (bs := [.inr (.inr ((27 : Nat) : Int)), .inl (-1)]) (st' := []) ((hp 60).trans rfl) (hw.o (i := 9) (by decide) rfl) rfl rfl (Nat.le_of_ble_eq_true rfl) (Nat.le_of_ble_eq_true rfl) (am_R.post H (fun v g3 hq => ?_))
      obtain ⟨r4, rfl, hw, H⟩ := hq
      change am_R _ _ _ _ _ [.inl r4] _ _
      refine am_R.next ((hp 63).trans rfl) rfl ?_
      refine am_R.next ((hp 64).trans rfl) rfl ?_
      refine r_getR ((hp 65).trans rfl) (tr_o ht1 hw) (tr_h ht1 hw) ?_
      refine am_R.next ((hp 68).trans rfl) rfl ?_
      obtain ⟨c5, H⟩ := H
      refine r_lald ((hp 70).trans rfl) (tr_ha ht1 hw c5.1 c5.2) ?_
      refine am_R.next ((hp 71).trans rfl) rfl ?_
      refine r_if ((hp 72).trans rfl) (fun c7 => ?_) (fun c7 => ?_)
      · have H := H.1 (lc_net c7)
        exact H
      · have H := H.2 (lc_nef c7)
        obtain ⟨y6, ey6⟩ : ∃ z : Int, z = am_w (x4 + 1) := ⟨_, rfl⟩
        have H := H y6 ey6
        refine am_R.next (lv' := [some (.inr (.inr ((0 : Nat) : Int))), some (.inr (.inr ((t1 : Nat) : Int))), some (.inl x2), some (.inl x3), some (.inl y6)]) (st' := []) (h' := g3) (pc' := 78) ((hp 75).trans rfl) (by rw [ey6]; rfl) ?_
        refine am_R.next ((hp 78).trans rfl) rfl ?_
        exact H
theorem w_S_hushesBy_81 {scr : Nat × (Nat → Int)} {d : Nat} {h : am_H} {Q : Option am_V → am_H → Prop} {x2 x3 x4 : Int} {t1 : Nat} (ht1 : t1 ∈ TR) (hs : am_sc scr) (hw : wf h) (H : (¬ (x4 = (h.2.2.2 t1 2)) → (∀ y1 : Int, y1 = am_w (x3 + 1) → (am_R (am_prog scr) (d + 1) f_S_hushesBy 4 [some (.inr (.inr ((0 : Nat) : Int))), some (.inr (.inr ((t1 : Nat) : Int))), some (.inl x2), some (.inl y1), none] [] h Q))) ∧ (x4 = (h.2.2.2 t1 2) → (∀ y2 : Int, y2 = am_or x2 (am_shl 1 x3) → (∀ y3 : Int, y3 = am_w (x3 + 1) → (am_R (am_prog scr) (d + 1) f_S_hushesBy 4 [some (.inr (.inr ((0 : Nat) : Int))), some (.inr (.inr ((t1 : Nat) : Int))), some (.inl y2), some (.inl y3), none] [] h Q))))) : am_R (am_prog scr) (d + 1) f_S_hushesBy 81 [some (.inr (.inr ((0 : Nat) : Int))), some (.inr (.inr ((t1 : Nat) : Int))), some (.inl x2), some (.inl x3), some (.inl x4)] [] h Q := by
  have hp : ∀ k, (am_prog scr).1 f_S_hushesBy k = c_S_hushesBy k := fun _ => rfl
  refine am_R.next ((hp 81).trans rfl) rfl ?_
  refine am_R.next ((hp 83).trans rfl) rfl ?_
  refine r_getI ((hp 84).trans rfl) (tr_o ht1 hw) ?_
  refine r_ic ((hp 87).trans rfl) (fun c4 => ?_) (fun c4 => ?_)
  · have H := H.1 c4
    obtain ⟨y1, ey1⟩ : ∃ z : Int, z = am_w (x3 + 1) := ⟨_, rfl⟩
    have H := H y1 ey1
    refine am_R.next (lv' := [some (.inr (.inr ((0 : Nat) : Int))), some (.inr (.inr ((t1 : Nat) : Int))), some (.inl x2), some (.inl y1), some (.inl x4)]) (st' := []) (h' := h) (pc' := 99) ((hp 96).trans rfl) (by rw [ey1]; rfl) ?_
    refine am_R.next ((hp 99).trans rfl) rfl ?_
    exact r_le hs in_171 (le_k (le_k (le_k (le_k (le_d le_n))))) H
  · have H := H.2 (Decidable.not_not.mp c4)
    refine am_R.next ((hp 90).trans rfl) rfl ?_
    refine am_R.next ((hp 91).trans rfl) rfl ?_
    refine am_R.next ((hp 92).trans rfl) rfl ?_
    refine am_R.next ((hp 93).trans rfl) rfl ?_
    refine am_R.next ((hp 94).trans rfl) rfl ?_
    obtain ⟨y2, ey2⟩ : ∃ z : Int, z = am_or x2 (am_shl 1 x3) := ⟨_, rfl⟩
    have H := H y2 ey2
    refine am_R.next (lv' := [some (.inr (.inr ((0 : Nat) : Int))), some (.inr (.inr ((t1 : Nat) : Int))), some (.inl y2), some (.inl x3), some (.inl x4)]) (st' := []) (h' := h) (pc' := 96) ((hp 95).trans rfl) (by rw [ey2]; rfl) ?_
    obtain ⟨y3, ey3⟩ : ∃ z : Int, z = am_w (x3 + 1) := ⟨_, rfl⟩
    have H := H y3 ey3
    refine am_R.next (lv' := [some (.inr (.inr ((0 : Nat) : Int))), some (.inr (.inr ((t1 : Nat) : Int))), some (.inl y2), some (.inl y3), some (.inl x4)]) (st' := []) (h' := h) (pc' := 99) ((hp 96).trans rfl) (by rw [ey3]; rfl) ?_
    refine am_R.next ((hp 99).trans rfl) rfl ?_
    exact r_le hs in_171 (le_k (le_k (le_k (le_k (le_d le_n))))) H
theorem w_S_largestGroup_0 {scr : Nat × (Nat → Int)} {d : Nat} {h : am_H} {Q : Option am_V → am_H → Prop} {x1 x2 : Int} (hs : am_sc scr) (hw : wf h) (H : am_R (am_prog scr) d f_jA_fill2 0 [some (.inr (.inr ((20 : Nat) : Int))), some (.inl 0), none, none] [] h (fun v g1 => v = none ∧ wf g1 ∧ (am_R (am_prog scr) (d + 1) f_S_largestGroup 13 [some (.inr (.inr ((0 : Nat) : Int))), some (.inl x1), some (.inl x2), some (.inl 0), some (.inl 0), none, none] [] g1 Q))) : am_R (am_prog scr) (d + 1) f_S_largestGroup 0 [some (.inr (.inr ((0 : Nat) : Int))), some (.inl x1), some (.inl x2), none, none, none, none] [] h Q := by
  have hp : ∀ k, (am_prog scr).1 f_S_largestGroup k = c_S_largestGroup k := fun _ => rfl
  refine am_R.next ((hp 0).trans rfl) rfl ?_
  refine r_getR ((hp 1).trans rfl) (hw.o (i := 0) (by decide) rfl) (hw.r wr_0_18) ?_
  refine am_R.next ((hp 4).trans rfl) rfl ?_
  refine r_cs (as := [.inr (.inr ((20 : Nat) : Int)), .inl 0]) (st' := []) ((hp 5).trans rfl) rfl rfl (Nat.le_of_ble_eq_true rfl) (Nat.le_of_ble_eq_true rfl) (am_R.post H (fun v g1 hq => ?_))
  obtain ⟨rfl, hw, H⟩ := hq
  change am_R _ _ _ _ _ [] _ _
  refine am_R.next ((hp 8).trans rfl) rfl ?_
  refine am_R.next (lv' := [some (.inr (.inr ((0 : Nat) : Int))), some (.inl x1), some (.inl x2), some (.inl 0), none, none, none]) ((hp 9).trans rfl) rfl ?_
  refine am_R.next ((hp 10).trans rfl) rfl ?_
  refine am_R.next (lv' := [some (.inr (.inr ((0 : Nat) : Int))), some (.inl x1), some (.inl x2), some (.inl 0), some (.inl 0), none, none]) ((hp 11).trans rfl) rfl ?_
  exact H
theorem w_S_largestGroup_13 {scr : Nat × (Nat → Int)} {d : Nat} {h : am_H} {Q : Option am_V → am_H → Prop} {x1 x2 x3 x4 : Int} (hs : am_sc scr) (hw : wf h) (H : (¬ (x4 < 10) → (Q (some (.inl x3)) h)) ∧ (x4 < 10 → (((am_and (am_shr x1 x4) 1) = 0 → (∀ y1 : Int, y1 = am_w (x4 + 1) → (am_R (am_prog scr) (d + 1) f_S_largestGroup 13 [some (.inr (.inr ((0 : Nat) : Int))), some (.inl x1), some (.inl x2), some (.inl x3), some (.inl y1), none, none] [] h Q))) ∧ (¬ ((am_and (am_shr x1 x4) 1) = 0) → (am_R (am_prog scr) d f_Play_takeFrom 0 [some (.inr (.inr ((27 : Nat) : Int))), some (.inr (.inr ((24 : Nat) : Int)))] [] h (fun v g2 => v = none ∧ wf g2 ∧ (∀ h3 : am_H, h3 = am_put g2 27 3 x4 → (am_R (am_prog scr) d f_Play_goesOn 0 [some (.inr (.inr ((27 : Nat) : Int)))] [] h3 (fun v g4 => ∃ r5 : Int, v = some (.inl r5) ∧ wf g4 ∧ ((r5 = 0 → ((¬ (((-1) : Int) = (-1)) → (∀ y6 : Int, y6 = am_w ((am_w ((g4.2.2.2 27 5) * 6)) + (-1)) → ((0 ≤ y6 ∧ y6 < 37) ∧ (((0 ≤ y6 ∧ y6 < 37)) ∧ (∀ h9 : am_H, h9 = am_put g4 20 y6.toNat (am_w ((g4.2.2.2 20 y6.toNat) + 1)) → ((0 ≤ y6 ∧ y6 < 37) ∧ (am_R (am_prog scr) d f_jM_max 0 [some (.inl x3), some (.inl (h9.2.2.2 20 y6.toNat))] [] h9 (fun v g11 => ∃ r12 : Int, v = some (.inl r12) ∧ wf g11 ∧ (∀ y13 : Int, y13 = am_w (x4 + 1) → (am_R (am_prog scr) (d + 1) f_S_largestGroup 13 [some (.inr (.inr ((0 : Nat) : Int))), some (.inl x1), some (.inl x2), some (.inl r12), some (.inl y13), none, none] [] g11 Q)))))))))) ∧ (((-1) : Int) = (-1) → (∀ h14 : am_H, h14 = am_put g4 20 36 (am_w ((g4.2.2.2 20 36) + 1)) → (am_R (am_prog scr) d f_jM_max 0 [some (.inl x3), some (.inl (h14.2.2.2 20 36))] [] h14 (fun v g15 => ∃ r16 : Int, v = some (.inl r16) ∧ wf g15 ∧ (∀ y17 : Int, y17 = am_w (x4 + 1) → (am_R (am_prog scr) (d + 1) f_S_largestGroup 13 [some (.inr (.inr ((0 : Nat) : Int))), some (.inl x1), some (.inl x2), some (.inl r16), some (.inl y17), none, none] [] g15 Q)))))))) ∧ (¬ (r5 = 0) → (am_R (am_prog scr) d f_Stage_step 0 [some (.inr (.inr ((9 : Nat) : Int))), some (.inr (.inr ((27 : Nat) : Int))), some (.inl (am_w (x2 - 1))), none, none, none, none] [] g4 (fun v g19 => ∃ r20 : Int, v = some (.inl r20) ∧ wf g19 ∧ ((¬ (r20 = (-1)) → (∀ y21 : Int, y21 = am_w ((am_w ((g19.2.2.2 27 5) * 6)) + r20) → ((0 ≤ y21 ∧ y21 < 37) ∧ (((0 ≤ y21 ∧ y21 < 37)) ∧ (∀ h24 : am_H, h24 = am_put g19 20 y21.toNat (am_w ((g19.2.2.2 20 y21.toNat) + 1)) → ((0 ≤ y21 ∧ y21 < 37) ∧ (am_R (am_prog scr) d f_jM_max 0 [some (.inl x3), some (.inl (h24.2.2.2 20 y21.toNat))] [] h24 (fun v g26 => ∃ r27 : Int, v = some (.inl r27) ∧ wf g26 ∧ (∀ y28 : Int, y28 = am_w (x4 + 1) → (am_R (am_prog scr) (d + 1) f_S_largestGroup 13 [some (.inr (.inr ((0 : Nat) : Int))), some (.inl x1), some (.inl x2), some (.inl r27), some (.inl y28), none, none] [] g26 Q)))))))))) ∧ (r20 = (-1) → (∀ h29 : am_H, h29 = am_put g19 20 36 (am_w ((g19.2.2.2 20 36) + 1)) → (am_R (am_prog scr) d f_jM_max 0 [some (.inl x3), some (.inl (h29.2.2.2 20 36))] [] h29 (fun v g30 => ∃ r31 : Int, v = some (.inl r31) ∧ wf g30 ∧ (∀ y32 : Int, y32 = am_w (x4 + 1) → (am_R (am_prog scr) (d + 1) f_S_largestGroup 13 [some (.inr (.inr ((0 : Nat) : Int))), some (.inl x1), some (.inl x2), some (.inl r31), some (.inl y32), none, none] [] g30 Q)))))))))))))))))))) : am_R (am_prog scr) (d + 1) f_S_largestGroup 13 [some (.inr (.inr ((0 : Nat) : Int))), some (.inl x1), some (.inl x2), some (.inl x3), some (.inl x4), none, none] [] h Q := by
  have hp : ∀ k, (am_prog scr).1 f_S_largestGroup k = c_S_largestGroup k := fun _ => rfl
  refine am_R.next ((hp 13).trans rfl) rfl ?_
  refine am_R.next ((hp 15).trans rfl) rfl ?_
  refine r_ic ((hp 17).trans rfl) (fun c36 => ?_) (fun c36 => ?_)
  · have H := H.1 c36
    refine am_R.next ((hp 134).trans rfl) rfl ?_
    exact am_R.ret ((hp 135).trans rfl) rfl H
  · have H := H.2 (Decidable.not_not.mp c36)
    refine am_R.next ((hp 20).trans rfl) rfl ?_
    refine am_R.next ((hp 21).trans rfl) rfl ?_
    refine am_R.next ((hp 23).trans rfl) rfl ?_
    refine am_R.next ((hp 24).trans rfl) rfl ?_
    refine am_R.next ((hp 25).trans rfl) rfl ?_
    refine r_if ((hp 26).trans rfl) (fun c35 => ?_) (fun c35 => ?_)
    · have H := H.1 c35
      obtain ⟨y1, ey1⟩ : ∃ z : Int, z = am_w (x4 + 1) := ⟨_, rfl⟩
      have H := H y1 ey1
      refine am_R.next (lv' := [some (.inr (.inr ((0 : Nat) : Int))), some (.inl x1), some (.inl x2), some (.inl x3), some (.inl y1), none, none]) (st' := []) (h' := h) (pc' := 131) ((hp 128).trans rfl) (by rw [ey1]; rfl) ?_
      refine am_R.next ((hp 131).trans rfl) rfl ?_
      exact H
    · have H := H.2 c35
      refine am_R.next ((hp 29).trans rfl) rfl ?_
      refine r_getR ((hp 30).trans rfl) (hw.o (i := 0) (by decide) rfl) (hw.r wr_0_13) ?_
      refine am_R.next ((hp 33).trans rfl) rfl ?_
      refine r_getR ((hp 34).trans rfl) (hw.o (i := 0) (by decide) rfl) (hw.r wr_0_12) ?_
      refine r_cv (bs := [.inr (.inr ((24 : Nat) : Int))]) (st' := []) ((hp 37).trans rfl) (hw.o (i := 27) (by decide) rfl) rfl rfl (Nat.le_of_ble_eq_true rfl) (Nat.le_of_ble_eq_true rfl) (am_R.post H (fun v g2 hq => ?_))
      obtain ⟨rfl, hw, H⟩ := hq
      change am_R _ _ _ _ _ [] _ _
      refine am_R.next ((hp 40).trans rfl) rfl ?_
      refine r_getR ((hp 41).trans rfl) (hw.o (i := 0) (by decide) rfl) (hw.r wr_0_13) ?_
      refine am_R.next ((hp 44).trans rfl) rfl ?_
      obtain ⟨h3, eh3⟩ : ∃ z : am_H, z = am_put g2 27 3 x4 := ⟨_, rfl⟩
      have H := H h3 eh3
      refine r_putI ((hp 46).trans rfl) (hw.o (i := 27) (by decide) rfl) ?_
      have hw : wf h3 := by rw [eh3]; exact hw.put np_27_3
      change am_R _ _ _ _ _ _ (am_put g2 27 3 x4) _
      rw [← eh3]
      refine am_R.next ((hp 49).trans rfl) rfl ?_
      refine r_getR ((hp 50).trans rfl) (hw.o (i := 0) (by decide) rfl) (hw.r wr_0_13) ?_
      refine r_cv (bs := []) (st' := []) ((hp 53).trans rfl) (hw.o (i := 27) (by decide) rfl) rfl rfl (Nat.le_of_ble_eq_true rfl) (Nat.le_of_ble_eq_true rfl) (am_R.post H (fun v g4 hq => ?_))
      obtain ⟨r5, rfl, hw, H⟩ := hq
      change am_R _ _ _ _ _ [.inl r5] _ _
      refine r_if ((hp 56).trans rfl) (fun c34 => ?_) (fun c34 => ?_)
      · have H := H.1 c34
        refine am_R.next ((hp 76).trans rfl) rfl ?_
        refine am_R.next (lv' := [some (.inr (.inr ((0 : Nat) : Int))), some (.inl x1), some (.inl x2), some (.inl x3), some (.inl x4), some (.inl (-1)), none]) ((hp 77).trans rfl) rfl ?_
        refine am_R.next ((hp 79).trans rfl) rfl ?_
        refine am_R.next ((hp 81).trans rfl) rfl ?_
        refine r_ic ((hp 82).trans rfl) (fun c18 => ?_) (fun c18 => ?_)
        · have H := H.1 c18
          refine am_R.next ((hp 90).trans rfl) rfl ?_
          refine r_getR ((hp 91).trans rfl) (hw.o (i := 0) (by decide) rfl) (hw.r wr_0_13) ?_
          refine r_getI ((hp 94).trans rfl) (hw.o (i := 27) (by decide) rfl) ?_
          refine am_R.next ((hp 97).trans rfl) rfl ?_
          refine am_R.next ((hp 99).trans rfl) rfl ?_
          refine am_R.next ((hp 100).trans rfl) rfl ?_
          refine am_R.next ((hp 102).trans rfl) rfl ?_
          obtain ⟨y6, ey6⟩ : ∃ z : Int, z = am_w ((am_w ((g4.2.2.2 27 5) * 6)) + (-1)) := ⟨_, rfl⟩
          have H := H y6 ey6
          refine am_R.next (lv' := [some (.inr (.inr ((0 : Nat) : Int))), some (.inl x1), some (.inl x2), some (.inl x3), some (.inl x4), some (.inl (-1)), some (.inl y6)]) (st' := []) (h' := g4) (pc' := 105) ((hp 103).trans rfl) (by rw [ey6]; rfl) ?_
          refine am_R.next ((hp 105).trans rfl) rfl ?_
          refine r_getR ((hp 106).trans rfl) (hw.o (i := 0) (by decide) rfl) (hw.r wr_0_18) ?_
          refine am_R.next ((hp 109).trans rfl) rfl ?_
          refine am_R.next ((hp 111).trans rfl) rfl ?_
          obtain ⟨c7, H⟩ := H
          refine r_iald ((hp 112).trans rfl) (hw.a (i := 20) (by decide) rfl c7.1 c7.2) ?_
          refine am_R.next ((hp 113).trans rfl) rfl ?_
          refine am_R.next ((hp 114).trans rfl) rfl ?_
          obtain ⟨c8, H⟩ := H
          obtain ⟨h9, eh9⟩ : ∃ z : am_H, z = am_put g4 20 y6.toNat (am_w ((g4.2.2.2 20 y6.toNat) + 1)) := ⟨_, rfl⟩
          have H := H h9 eh9
          refine r_iast ((hp 115).trans rfl) (hw.a (i := 20) (by decide) rfl c8.1 c8.2) ?_
          have hw : wf h9 := by rw [eh9]; exact hw.pa na_20
          change am_R _ _ _ _ _ _ (am_put g4 20 y6.toNat (am_w ((g4.2.2.2 20 y6.toNat) + 1))) _
          rw [← eh9]
          refine am_R.next ((hp 116).trans rfl) rfl ?_
          refine am_R.next ((hp 117).trans rfl) rfl ?_
          refine r_getR ((hp 118).trans rfl) (hw.o (i := 0) (by decide) rfl) (hw.r wr_0_18) ?_
          refine am_R.next ((hp 121).trans rfl) rfl ?_
          obtain ⟨c10, H⟩ := H
          refine r_iald ((hp 123).trans rfl) (hw.a (i := 20) (by decide) rfl c10.1 c10.2) ?_
          refine r_cs (as := [.inl x3, .inl (h9.2.2.2 20 y6.toNat)]) (st' := []) ((hp 124).trans rfl) rfl rfl (Nat.le_of_ble_eq_true rfl) (Nat.le_of_ble_eq_true rfl) (am_R.post H (fun v g11 hq => ?_))
          obtain ⟨r12, rfl, hw, H⟩ := hq
          change am_R _ _ _ _ _ [.inl r12] _ _
          refine am_R.next (lv' := [some (.inr (.inr ((0 : Nat) : Int))), some (.inl x1), some (.inl x2), some (.inl r12), some (.inl x4), some (.inl (-1)), some (.inl y6)]) ((hp 127).trans rfl) rfl ?_
          obtain ⟨y13, ey13⟩ : ∃ z : Int, z = am_w (x4 + 1) := ⟨_, rfl⟩
          have H := H y13 ey13
          refine am_R.next (lv' := [some (.inr (.inr ((0 : Nat) : Int))), some (.inl x1), some (.inl x2), some (.inl r12), some (.inl y13), some (.inl (-1)), some (.inl y6)]) (st' := []) (h' := g11) (pc' := 131) ((hp 128).trans rfl) (by rw [ey13]; rfl) ?_
          refine am_R.next ((hp 131).trans rfl) rfl ?_
          exact r_le hs in_172 (le_k (le_k (le_k (le_k (le_k (le_d (le_d le_n))))))) H
        · have H := H.2 (Decidable.not_not.mp c18)
          refine am_R.next ((hp 85).trans rfl) rfl ?_
          refine am_R.next ((hp 87).trans rfl) rfl ?_
          refine am_R.next (lv' := [some (.inr (.inr ((0 : Nat) : Int))), some (.inl x1), some (.inl x2), some (.inl x3), some (.inl x4), some (.inl (-1)), some (.inl 36)]) ((hp 103).trans rfl) rfl ?_
          refine am_R.next ((hp 105).trans rfl) rfl ?_
          refine r_getR ((hp 106).trans rfl) (hw.o (i := 0) (by decide) rfl) (hw.r wr_0_18) ?_
          refine am_R.next ((hp 109).trans rfl) rfl ?_
          refine am_R.next ((hp 111).trans rfl) rfl ?_
          refine r_iald ((hp 112).trans rfl) (hw.a (i := 20) (by decide) rfl (by decide) (by decide)) ?_
          refine am_R.next ((hp 113).trans rfl) rfl ?_
          refine am_R.next ((hp 114).trans rfl) rfl ?_
          obtain ⟨h14, eh14⟩ : ∃ z : am_H, z = am_put g4 20 36 (am_w ((g4.2.2.2 20 36) + 1)) := ⟨_, rfl⟩
          have H := H h14 eh14
          refine r_iast ((hp 115).trans rfl) (hw.a (i := 20) (by decide) rfl (by decide) (by decide)) ?_
          have hw : wf h14 := by rw [eh14]; exact hw.pa na_20
          change am_R _ _ _ _ _ _ (am_put g4 20 36 (am_w ((g4.2.2.2 20 36) + 1))) _
          rw [← eh14]
          refine am_R.next ((hp 116).trans rfl) rfl ?_
          refine am_R.next ((hp 117).trans rfl) rfl ?_
          refine r_getR ((hp 118).trans rfl) (hw.o (i := 0) (by decide) rfl) (hw.r wr_0_18) ?_
          refine am_R.next ((hp 121).trans rfl) rfl ?_
          refine r_iald ((hp 123).trans rfl) (hw.a (i := 20) (by decide) rfl (by decide) (by decide)) ?_
          refine r_cs (as := [.inl x3, .inl (h14.2.2.2 20 36)]) (st' := []) ((hp 124).trans rfl) rfl rfl (Nat.le_of_ble_eq_true rfl) (Nat.le_of_ble_eq_true rfl) (am_R.post H (fun v g15 hq => ?_))
          obtain ⟨r16, rfl, hw, H⟩ := hq
          change am_R _ _ _ _ _ [.inl r16] _ _
          refine am_R.next (lv' := [some (.inr (.inr ((0 : Nat) : Int))), some (.inl x1), some (.inl x2), some (.inl r16), some (.inl x4), some (.inl (-1)), some (.inl 36)]) ((hp 127).trans rfl) rfl ?_
          obtain ⟨y17, ey17⟩ : ∃ z : Int, z = am_w (x4 + 1) := ⟨_, rfl⟩
          have H := H y17 ey17
          refine am_R.next (lv' := [some (.inr (.inr ((0 : Nat) : Int))), some (.inl x1), some (.inl x2), some (.inl r16), some (.inl y17), some (.inl (-1)), some (.inl 36)]) (st' := []) (h' := g15) (pc' := 131) ((hp 128).trans rfl) (by rw [ey17]; rfl) ?_
          refine am_R.next ((hp 131).trans rfl) rfl ?_
          exact r_le hs in_172 (le_k (le_k (le_k (le_k (le_k (le_d (le_d le_n))))))) H
      · have H := H.2 c34
        refine am_R.next ((hp 59).trans rfl) rfl ?_
        refine r_getR ((hp 60).trans rfl) (hw.o (i := 0) (by decide) rfl) (hw.r wr_0_7) ?_
        refine am_R.next ((hp 63).trans rfl) rfl ?_
        refine r_getR ((hp 64).trans rfl) (hw.o (i := 0) (by decide) rfl) (hw.r wr_0_13) ?_
        refine am_R.next ((hp 67).trans rfl) rfl ?_
        refine am_R.next ((hp 68).trans rfl) rfl ?_
        refine am_R.next ((hp 69).trans rfl) rfl ?_
        refine r_cv (bs := [.inr (.inr ((27 : Nat) : Int)), .inl (am_w (x2 - 1))]) (st' := []) ((hp 70).trans rfl) (hw.o (i := 9) (by decide) rfl) rfl rfl (Nat.le_of_ble_eq_true rfl) (Nat.le_of_ble_eq_true rfl) (am_R.post H (fun v g19 hq => ?_))
        obtain ⟨r20, rfl, hw, H⟩ := hq
        change am_R _ _ _ _ _ [.inl r20] _ _
        refine am_R.next ((hp 73).trans rfl) rfl ?_
        refine am_R.next (lv' := [some (.inr (.inr ((0 : Nat) : Int))), some (.inl x1), some (.inl x2), some (.inl x3), some (.inl x4), some (.inl r20), none]) ((hp 77).trans rfl) rfl ?_
        refine am_R.next ((hp 79).trans rfl) rfl ?_
        refine am_R.next ((hp 81).trans rfl) rfl ?_
        refine r_ic ((hp 82).trans rfl) (fun c33 => ?_) (fun c33 => ?_)
        · have H := H.1 c33
          refine am_R.next ((hp 90).trans rfl) rfl ?_
          refine r_getR ((hp 91).trans rfl) (hw.o (i := 0) (by decide) rfl) (hw.r wr_0_13) ?_
          refine r_getI ((hp 94).trans rfl) (hw.o (i := 27) (by decide) rfl) ?_
          refine am_R.next ((hp 97).trans rfl) rfl ?_
          refine am_R.next ((hp 99).trans rfl) rfl ?_
          refine am_R.next ((hp 100).trans rfl) rfl ?_
          refine am_R.next ((hp 102).trans rfl) rfl ?_
          obtain ⟨y21, ey21⟩ : ∃ z : Int, z = am_w ((am_w ((g19.2.2.2 27 5) * 6)) + r20) := ⟨_, rfl⟩
          have H := H y21 ey21
          refine am_R.next (lv' := [some (.inr (.inr ((0 : Nat) : Int))), some (.inl x1), some (.inl x2), some (.inl x3), some (.inl x4), some (.inl r20), some (.inl y21)]) (st' := []) (h' := g19) (pc' := 105) ((hp 103).trans rfl) (by rw [ey21]; rfl) ?_
          refine am_R.next ((hp 105).trans rfl) rfl ?_
          refine r_getR ((hp 106).trans rfl) (hw.o (i := 0) (by decide) rfl) (hw.r wr_0_18) ?_
          refine am_R.next ((hp 109).trans rfl) rfl ?_
          refine am_R.next ((hp 111).trans rfl) rfl ?_
          obtain ⟨c22, H⟩ := H
          refine r_iald ((hp 112).trans rfl) (hw.a (i := 20) (by decide) rfl c22.1 c22.2) ?_
          refine am_R.next ((hp 113).trans rfl) rfl ?_
          refine am_R.next ((hp 114).trans rfl) rfl ?_
          obtain ⟨c23, H⟩ := H
          obtain ⟨h24, eh24⟩ : ∃ z : am_H, z = am_put g19 20 y21.toNat (am_w ((g19.2.2.2 20 y21.toNat) + 1)) := ⟨_, rfl⟩
          have H := H h24 eh24
          refine r_iast ((hp 115).trans rfl) (hw.a (i := 20) (by decide) rfl c23.1 c23.2) ?_
          have hw : wf h24 := by rw [eh24]; exact hw.pa na_20
          change am_R _ _ _ _ _ _ (am_put g19 20 y21.toNat (am_w ((g19.2.2.2 20 y21.toNat) + 1))) _
          rw [← eh24]
          refine am_R.next ((hp 116).trans rfl) rfl ?_
          refine am_R.next ((hp 117).trans rfl) rfl ?_
          refine r_getR ((hp 118).trans rfl) (hw.o (i := 0) (by decide) rfl) (hw.r wr_0_18) ?_
          refine am_R.next ((hp 121).trans rfl) rfl ?_
          obtain ⟨c25, H⟩ := H
          refine r_iald ((hp 123).trans rfl) (hw.a (i := 20) (by decide) rfl c25.1 c25.2) ?_
          refine r_cs (as := [.inl x3, .inl (h24.2.2.2 20 y21.toNat)]) (st' := []) ((hp 124).trans rfl) rfl rfl (Nat.le_of_ble_eq_true rfl) (Nat.le_of_ble_eq_true rfl) (am_R.post H (fun v g26 hq => ?_))
          obtain ⟨r27, rfl, hw, H⟩ := hq
          change am_R _ _ _ _ _ [.inl r27] _ _
          refine am_R.next (lv' := [some (.inr (.inr ((0 : Nat) : Int))), some (.inl x1), some (.inl x2), some (.inl r27), some (.inl x4), some (.inl r20), some (.inl y21)]) ((hp 127).trans rfl) rfl ?_
          obtain ⟨y28, ey28⟩ : ∃ z : Int, z = am_w (x4 + 1) := ⟨_, rfl⟩
          have H := H y28 ey28
          refine am_R.next (lv' := [some (.inr (.inr ((0 : Nat) : Int))), some (.inl x1), some (.inl x2), some (.inl r27), some (.inl y28), some (.inl r20), some (.inl y21)]) (st' := []) (h' := g26) (pc' := 131) ((hp 128).trans rfl) (by rw [ey28]; rfl) ?_
          refine am_R.next ((hp 131).trans rfl) rfl ?_
          exact r_le hs in_172 (le_k (le_k (le_k (le_k (le_k (le_d (le_d le_n))))))) H
        · have H := H.2 (Decidable.not_not.mp c33)
          refine am_R.next ((hp 85).trans rfl) rfl ?_
          refine am_R.next ((hp 87).trans rfl) rfl ?_
          refine am_R.next (lv' := [some (.inr (.inr ((0 : Nat) : Int))), some (.inl x1), some (.inl x2), some (.inl x3), some (.inl x4), some (.inl r20), some (.inl 36)]) ((hp 103).trans rfl) rfl ?_
          refine am_R.next ((hp 105).trans rfl) rfl ?_
          refine r_getR ((hp 106).trans rfl) (hw.o (i := 0) (by decide) rfl) (hw.r wr_0_18) ?_
          refine am_R.next ((hp 109).trans rfl) rfl ?_
          refine am_R.next ((hp 111).trans rfl) rfl ?_
          refine r_iald ((hp 112).trans rfl) (hw.a (i := 20) (by decide) rfl (by decide) (by decide)) ?_
          refine am_R.next ((hp 113).trans rfl) rfl ?_
          refine am_R.next ((hp 114).trans rfl) rfl ?_
          obtain ⟨h29, eh29⟩ : ∃ z : am_H, z = am_put g19 20 36 (am_w ((g19.2.2.2 20 36) + 1)) := ⟨_, rfl⟩
          have H := H h29 eh29
          refine r_iast ((hp 115).trans rfl) (hw.a (i := 20) (by decide) rfl (by decide) (by decide)) ?_
          have hw : wf h29 := by rw [eh29]; exact hw.pa na_20
          change am_R _ _ _ _ _ _ (am_put g19 20 36 (am_w ((g19.2.2.2 20 36) + 1))) _
          rw [← eh29]
          refine am_R.next ((hp 116).trans rfl) rfl ?_
          refine am_R.next ((hp 117).trans rfl) rfl ?_
          refine r_getR ((hp 118).trans rfl) (hw.o (i := 0) (by decide) rfl) (hw.r wr_0_18) ?_
          refine am_R.next ((hp 121).trans rfl) rfl ?_
          refine r_iald ((hp 123).trans rfl) (hw.a (i := 20) (by decide) rfl (by decide) (by decide)) ?_
          refine r_cs (as := [.inl x3, .inl (h29.2.2.2 20 36)]) (st' := []) ((hp 124).trans rfl) rfl rfl (Nat.le_of_ble_eq_true rfl) (Nat.le_of_ble_eq_true rfl) (am_R.post H (fun v g30 hq => ?_))
          obtain ⟨r31, rfl, hw, H⟩ := hq
          change am_R _ _ _ _ _ [.inl r31] _ _
          refine am_R.next (lv' := [some (.inr (.inr ((0 : Nat) : Int))), some (.inl x1), some (.inl x2), some (.inl r31), some (.inl x4), some (.inl r20), some (.inl 36)]) ((hp 127).trans rfl) rfl ?_
          obtain ⟨y32, ey32⟩ : ∃ z : Int, z = am_w (x4 + 1) := ⟨_, rfl⟩
          have H := H y32 ey32
          refine am_R.next (lv' := [some (.inr (.inr ((0 : Nat) : Int))), some (.inl x1), some (.inl x2), some (.inl r31), some (.inl y32), some (.inl r20), some (.inl 36)]) (st' := []) (h' := g30) (pc' := 131) ((hp 128).trans rfl) (by rw [ey32]; rfl) ?_
          refine am_R.next ((hp 131).trans rfl) rfl ?_
          exact r_le hs in_172 (le_k (le_k (le_k (le_k (le_k (le_d (le_d le_n))))))) H
theorem w_S_forces_0 {scr : Nat × (Nat → Int)} {d : Nat} {h : am_H} {Q : Option am_V → am_H → Prop} (hs : am_sc scr) (hw : wf h) (H : am_R (am_prog scr) d f_Graph_prepare 0 [some (.inr (.inr ((30 : Nat) : Int))), some (.inr (.inr ((24 : Nat) : Int))), none, none, none] [] h (fun v g1 => v = none ∧ wf g1 ∧ (am_R (am_prog scr) d f_Search_forcedIn 0 [some (.inr (.inr ((40 : Nat) : Int))), none, none, none] [] g1 (fun v g2 => ∃ r3 : Int, v = some (.inl r3) ∧ wf g2 ∧ (Q (some (.inl r3)) g2))))) : am_R (am_prog scr) (d + 1) f_S_forces 0 [some (.inr (.inr ((0 : Nat) : Int)))] [] h Q := by
  have hp : ∀ k, (am_prog scr).1 f_S_forces k = c_S_forces k := fun _ => rfl
  refine am_R.next ((hp 0).trans rfl) rfl ?_
  refine r_getR ((hp 1).trans rfl) (hw.o (i := 0) (by decide) rfl) (hw.r wr_0_8) ?_
  refine am_R.next ((hp 4).trans rfl) rfl ?_
  refine r_getR ((hp 5).trans rfl) (hw.o (i := 0) (by decide) rfl) (hw.r wr_0_12) ?_
  refine r_cv (bs := [.inr (.inr ((24 : Nat) : Int))]) (st' := []) ((hp 8).trans rfl) (hw.o (i := 30) (by decide) rfl) rfl rfl (Nat.le_of_ble_eq_true rfl) (Nat.le_of_ble_eq_true rfl) (am_R.post H (fun v g1 hq => ?_))
  obtain ⟨rfl, hw, H⟩ := hq
  change am_R _ _ _ _ _ [] _ _
  refine am_R.next ((hp 11).trans rfl) rfl ?_
  refine r_getR ((hp 12).trans rfl) (hw.o (i := 0) (by decide) rfl) (hw.r wr_0_9) ?_
  refine r_cv (bs := []) (st' := []) ((hp 15).trans rfl) (hw.o (i := 40) (by decide) rfl) rfl rfl (Nat.le_of_ble_eq_true rfl) (Nat.le_of_ble_eq_true rfl) (am_R.post H (fun v g2 hq => ?_))
  obtain ⟨r3, rfl, hw, H⟩ := hq
  change am_R _ _ _ _ _ [.inl r3] _ _
  exact am_R.ret ((hp 18).trans rfl) rfl H
theorem w_S_best_0 {scr : Nat × (Nat → Int)} {d : Nat} {h : am_H} {Q : Option am_V → am_H → Prop} (hs : am_sc scr) (hw : wf h) (H : am_R (am_prog scr) d f_Graph_prepare 0 [some (.inr (.inr ((30 : Nat) : Int))), some (.inr (.inr ((24 : Nat) : Int))), none, none, none] [] h (fun v g1 => v = none ∧ wf g1 ∧ (am_R (am_prog scr) d f_Search_forcingDeed 0 [some (.inr (.inr ((40 : Nat) : Int))), none] [] g1 (fun v g2 => ∃ r3 : Int, v = some (.inl r3) ∧ wf g2 ∧ (Q (some (.inl r3)) g2))))) : am_R (am_prog scr) (d + 1) f_S_best 0 [some (.inr (.inr ((0 : Nat) : Int)))] [] h Q := by
  have hp : ∀ k, (am_prog scr).1 f_S_best k = c_S_best k := fun _ => rfl
  refine am_R.next ((hp 0).trans rfl) rfl ?_
  refine r_getR ((hp 1).trans rfl) (hw.o (i := 0) (by decide) rfl) (hw.r wr_0_8) ?_
  refine am_R.next ((hp 4).trans rfl) rfl ?_
  refine r_getR ((hp 5).trans rfl) (hw.o (i := 0) (by decide) rfl) (hw.r wr_0_12) ?_
  refine r_cv (bs := [.inr (.inr ((24 : Nat) : Int))]) (st' := []) ((hp 8).trans rfl) (hw.o (i := 30) (by decide) rfl) rfl rfl (Nat.le_of_ble_eq_true rfl) (Nat.le_of_ble_eq_true rfl) (am_R.post H (fun v g1 hq => ?_))
  obtain ⟨rfl, hw, H⟩ := hq
  change am_R _ _ _ _ _ [] _ _
  refine am_R.next ((hp 11).trans rfl) rfl ?_
  refine r_getR ((hp 12).trans rfl) (hw.o (i := 0) (by decide) rfl) (hw.r wr_0_9) ?_
  refine r_cv (bs := []) (st' := []) ((hp 15).trans rfl) (hw.o (i := 40) (by decide) rfl) rfl rfl (Nat.le_of_ble_eq_true rfl) (Nat.le_of_ble_eq_true rfl) (am_R.post H (fun v g2 hq => ?_))
  obtain ⟨r3, rfl, hw, H⟩ := hq
  change am_R _ _ _ _ _ [.inl r3] _ _
  exact am_R.ret ((hp 18).trans rfl) rfl H
theorem w_S_chance_0 {scr : Nat × (Nat → Int)} {d : Nat} {h : am_H} {Q : Option am_V → am_H → Prop} {x1 x2 : Int} (hs : am_sc scr) (hw : wf h) (H : am_R (am_prog scr) d f_S_portion 0 [some (.inr (.inr ((0 : Nat) : Int))), some (.inl x1), some (.inl x2), some (.inl 0), none, none, none, none, none, none] [] h (fun v g1 => ∃ r2 : Int, v = some (.inl r2) ∧ wf g1 ∧ (Q (some (.inl r2)) g1))) : am_R (am_prog scr) (d + 1) f_S_chance 0 [some (.inr (.inr ((0 : Nat) : Int))), some (.inl x1), some (.inl x2)] [] h Q := by
  have hp : ∀ k, (am_prog scr).1 f_S_chance k = c_S_chance k := fun _ => rfl
  refine am_R.next ((hp 0).trans rfl) rfl ?_
  refine am_R.next ((hp 1).trans rfl) rfl ?_
  refine am_R.next ((hp 2).trans rfl) rfl ?_
  refine am_R.next ((hp 3).trans rfl) rfl ?_
  refine r_cv (bs := [.inl x1, .inl x2, .inl 0]) (st' := []) ((hp 4).trans rfl) (hw.o (i := 0) (by decide) rfl) rfl rfl (Nat.le_of_ble_eq_true rfl) (Nat.le_of_ble_eq_true rfl) (am_R.post H (fun v g1 hq => ?_))
  obtain ⟨r2, rfl, hw, H⟩ := hq
  change am_R _ _ _ _ _ [.inl r2] _ _
  exact am_R.ret ((hp 7).trans rfl) rfl H
theorem w_S_mean_0 {scr : Nat × (Nat → Int)} {d : Nat} {h : am_H} {Q : Option am_V → am_H → Prop} {x1 x2 : Int} (hs : am_sc scr) (hw : wf h) (H : am_R (am_prog scr) d f_S_portion 0 [some (.inr (.inr ((0 : Nat) : Int))), some (.inl x1), some (.inl x2), some (.inl 1), none, none, none, none, none, none] [] h (fun v g1 => ∃ r2 : Int, v = some (.inl r2) ∧ wf g1 ∧ (Q (some (.inl r2)) g1))) : am_R (am_prog scr) (d + 1) f_S_mean 0 [some (.inr (.inr ((0 : Nat) : Int))), some (.inl x1), some (.inl x2)] [] h Q := by
  have hp : ∀ k, (am_prog scr).1 f_S_mean k = c_S_mean k := fun _ => rfl
  refine am_R.next ((hp 0).trans rfl) rfl ?_
  refine am_R.next ((hp 1).trans rfl) rfl ?_
  refine am_R.next ((hp 2).trans rfl) rfl ?_
  refine am_R.next ((hp 3).trans rfl) rfl ?_
  refine r_cv (bs := [.inl x1, .inl x2, .inl 1]) (st' := []) ((hp 4).trans rfl) (hw.o (i := 0) (by decide) rfl) rfl rfl (Nat.le_of_ble_eq_true rfl) (Nat.le_of_ble_eq_true rfl) (am_R.post H (fun v g1 hq => ?_))
  obtain ⟨r2, rfl, hw, H⟩ := hq
  change am_R _ _ _ _ _ [.inl r2] _ _
  exact am_R.ret ((hp 7).trans rfl) rfl H
theorem w_S_portion_0 {scr : Nat × (Nat → Int)} {d : Nat} {h : am_H} {Q : Option am_V → am_H → Prop} {x1 x2 x3 : Int} (hs : am_sc scr) (hw : wf h) (H : (x2 < 0 → (Q (some (.inl (-2))) h)) ∧ (¬ (x2 < 0) → ((x2 ≤ 1 → ((x1 < 0 → (Q (some (.inl (-3))) h)) ∧ (¬ (x1 < 0) → ((x1 ≤ 7 → (am_R (am_prog scr) d f_Graph_prepare 0 [some (.inr (.inr ((30 : Nat) : Int))), some (.inr (.inr ((24 : Nat) : Int))), none, none, none] [] h (fun v g1 => v = none ∧ wf g1 ∧ (am_R (am_prog scr) d f_Tally_drawLots 0 [some (.inr (.inr ((43 : Nat) : Int))), some (.inl x1), none, none] [] g1 (fun v g2 => v = none ∧ wf g2 ∧ ((x3 = 0 → (am_R (am_prog scr) d f_Tally_endsDrawn 0 [some (.inr (.inr ((43 : Nat) : Int))), none, none, none] [] g2 (fun v g3 => ∃ r4 : Int, v = some (.inr (.inl r4)) ∧ wf g3 ∧ (am_R (am_prog scr) (d + 1) f_S_portion 73 [some (.inr (.inr ((0 : Nat) : Int))), some (.inl x1), some (.inl x2), some (.inl x3), some (.inr (.inl r4)), none, some (.inr (.inl 1)), none, some (.inl 0), none] [] g3 Q)))) ∧ (¬ (x3 = 0) → (am_R (am_prog scr) d f_Tally_actsDrawn 0 [some (.inr (.inr ((43 : Nat) : Int))), none, none, none] [] g2 (fun v g5 => ∃ r6 : Int, v = some (.inr (.inl r6)) ∧ wf g5 ∧ (am_R (am_prog scr) (d + 1) f_S_portion 73 [some (.inr (.inr ((0 : Nat) : Int))), some (.inl x1), some (.inl x2), some (.inl x3), some (.inr (.inl r6)), none, some (.inr (.inl 1)), none, some (.inl 0), none] [] g5 Q)))))))))) ∧ (¬ (x1 ≤ 7) → (Q (some (.inl (-3))) h)))))) ∧ (¬ (x2 ≤ 1) → (Q (some (.inl (-2))) h))))) : am_R (am_prog scr) (d + 1) f_S_portion 0 [some (.inr (.inr ((0 : Nat) : Int))), some (.inl x1), some (.inl x2), some (.inl x3), none, none, none, none, none, none] [] h Q := by
  have hp : ∀ k, (am_prog scr).1 f_S_portion k = c_S_portion k := fun _ => rfl
  refine am_R.next ((hp 0).trans rfl) rfl ?_
  refine r_if ((hp 1).trans rfl) (fun c11 => ?_) (fun c11 => ?_)
  · have H := H.1 c11
    refine am_R.next ((hp 9).trans rfl) rfl ?_
    exact am_R.ret ((hp 11).trans rfl) rfl H
  · have H := H.2 c11
    refine am_R.next ((hp 4).trans rfl) rfl ?_
    refine am_R.next ((hp 5).trans rfl) rfl ?_
    refine r_ic ((hp 6).trans rfl) (fun c10 => ?_) (fun c10 => ?_)
    · have H := H.1 c10
      refine am_R.next ((hp 12).trans rfl) rfl ?_
      refine r_if ((hp 13).trans rfl) (fun c9 => ?_) (fun c9 => ?_)
      · have H := H.1 c9
        refine am_R.next ((hp 22).trans rfl) rfl ?_
        exact am_R.ret ((hp 24).trans rfl) rfl H
      · have H := H.2 c9
        refine am_R.next ((hp 16).trans rfl) rfl ?_
        refine am_R.next ((hp 17).trans rfl) rfl ?_
        refine r_ic ((hp 19).trans rfl) (fun c8 => ?_) (fun c8 => ?_)
        · have H := H.1 c8
          refine am_R.next ((hp 25).trans rfl) rfl ?_
          refine r_getR ((hp 26).trans rfl) (hw.o (i := 0) (by decide) rfl) (hw.r wr_0_8) ?_
          refine am_R.next ((hp 29).trans rfl) rfl ?_
          refine r_getR ((hp 30).trans rfl) (hw.o (i := 0) (by decide) rfl) (hw.r wr_0_12) ?_
          refine r_cv (bs := [.inr (.inr ((24 : Nat) : Int))]) (st' := []) ((hp 33).trans rfl) (hw.o (i := 30) (by decide) rfl) rfl rfl (Nat.le_of_ble_eq_true rfl) (Nat.le_of_ble_eq_true rfl) (am_R.post H (fun v g1 hq => ?_))
          obtain ⟨rfl, hw, H⟩ := hq
          change am_R _ _ _ _ _ [] _ _
          refine am_R.next ((hp 36).trans rfl) rfl ?_
          refine r_getR ((hp 37).trans rfl) (hw.o (i := 0) (by decide) rfl) (hw.r wr_0_10) ?_
          refine am_R.next ((hp 40).trans rfl) rfl ?_
          refine r_cv (bs := [.inl x1]) (st' := []) ((hp 41).trans rfl) (hw.o (i := 43) (by decide) rfl) rfl rfl (Nat.le_of_ble_eq_true rfl) (Nat.le_of_ble_eq_true rfl) (am_R.post H (fun v g2 hq => ?_))
          obtain ⟨rfl, hw, H⟩ := hq
          change am_R _ _ _ _ _ [] _ _
          refine am_R.next ((hp 44).trans rfl) rfl ?_
          refine r_if ((hp 45).trans rfl) (fun c7 => ?_) (fun c7 => ?_)
          · have H := H.1 c7
            refine am_R.next ((hp 58).trans rfl) rfl ?_
            refine r_getR ((hp 59).trans rfl) (hw.o (i := 0) (by decide) rfl) (hw.r wr_0_10) ?_
            refine r_cv (bs := []) (st' := []) ((hp 62).trans rfl) (hw.o (i := 43) (by decide) rfl) rfl rfl (Nat.le_of_ble_eq_true rfl) (Nat.le_of_ble_eq_true rfl) (am_R.post H (fun v g3 hq => ?_))
            obtain ⟨r4, rfl, hw, H⟩ := hq
            change am_R _ _ _ _ _ [.inr (.inl r4)] _ _
            refine am_R.next (lv' := [some (.inr (.inr ((0 : Nat) : Int))), some (.inl x1), some (.inl x2), some (.inl x3), some (.inr (.inl r4)), none, none, none, none, none]) ((hp 65).trans rfl) rfl ?_
            refine am_R.next ((hp 67).trans rfl) rfl ?_
            refine am_R.next (lv' := [some (.inr (.inr ((0 : Nat) : Int))), some (.inl x1), some (.inl x2), some (.inl x3), some (.inr (.inl r4)), none, some (.inr (.inl 1)), none, none, none]) ((hp 68).trans rfl) rfl ?_
            refine am_R.next ((hp 70).trans rfl) rfl ?_
            refine am_R.next (lv' := [some (.inr (.inr ((0 : Nat) : Int))), some (.inl x1), some (.inl x2), some (.inl x3), some (.inr (.inl r4)), none, some (.inr (.inl 1)), none, some (.inl 0), none]) ((hp 71).trans rfl) rfl ?_
            exact H
          · have H := H.2 c7
            refine am_R.next ((hp 48).trans rfl) rfl ?_
            refine r_getR ((hp 49).trans rfl) (hw.o (i := 0) (by decide) rfl) (hw.r wr_0_10) ?_
            refine r_cv (bs := []) (st' := []) ((hp 52).trans rfl) (hw.o (i := 43) (by decide) rfl) rfl rfl (Nat.le_of_ble_eq_true rfl) (Nat.le_of_ble_eq_true rfl) (am_R.post H (fun v g5 hq => ?_))
            obtain ⟨r6, rfl, hw, H⟩ := hq
            change am_R _ _ _ _ _ [.inr (.inl r6)] _ _
            refine am_R.next ((hp 55).trans rfl) rfl ?_
            refine am_R.next (lv' := [some (.inr (.inr ((0 : Nat) : Int))), some (.inl x1), some (.inl x2), some (.inl x3), some (.inr (.inl r6)), none, none, none, none, none]) ((hp 65).trans rfl) rfl ?_
            refine am_R.next ((hp 67).trans rfl) rfl ?_
            refine am_R.next (lv' := [some (.inr (.inr ((0 : Nat) : Int))), some (.inl x1), some (.inl x2), some (.inl x3), some (.inr (.inl r6)), none, some (.inr (.inl 1)), none, none, none]) ((hp 68).trans rfl) rfl ?_
            refine am_R.next ((hp 70).trans rfl) rfl ?_
            refine am_R.next (lv' := [some (.inr (.inr ((0 : Nat) : Int))), some (.inl x1), some (.inl x2), some (.inl x3), some (.inr (.inl r6)), none, some (.inr (.inl 1)), none, some (.inl 0), none]) ((hp 71).trans rfl) rfl ?_
            exact H
        · have H := H.2 c8
          refine am_R.next ((hp 22).trans rfl) rfl ?_
          exact am_R.ret ((hp 24).trans rfl) rfl H
    · have H := H.2 c10
      refine am_R.next ((hp 9).trans rfl) rfl ?_
      exact am_R.ret ((hp 11).trans rfl) rfl H
theorem w_S_portion_73 {scr : Nat × (Nat → Int)} {d : Nat} {h : am_H} {Q : Option am_V → am_H → Prop} {x1 x2 x3 x4 x6 x8 : Int} (hs : am_sc scr) (hw : wf h) (H : (¬ (x8 < x1) → (am_R (am_prog scr) d f_Tally_commonDivisor 0 [some (.inr (.inl x4)), none, some (.inr (.inl x6)), none, none, none, none, none, none, none, none] [] h (fun v g1 => ∃ r2 : Int, v = some (.inr (.inl r2)) ∧ wf g1 ∧ ((¬ (r2 < 1) → ((¬ (x2 = 0) → (r2 ≠ 0 ∧ (Q (some (.inl (am_w (am_W (x6.tdiv r2))))) g1))) ∧ (x2 = 0 → (r2 ≠ 0 ∧ (Q (some (.inl (am_w (am_W (x4.tdiv r2))))) g1))))) ∧ (r2 < 1 → (Q (some (.inl (-1))) g1)))))) ∧ (x8 < x1 → (∀ y7 : Int, y7 = am_W (x6 * 10) → (∀ y8 : Int, y8 = am_w (x8 + 1) → (am_R (am_prog scr) (d + 1) f_S_portion 73 [some (.inr (.inr ((0 : Nat) : Int))), some (.inl x1), some (.inl x2), some (.inl x3), some (.inr (.inl x4)), none, some (.inr (.inl y7)), none, some (.inl y8), none] [] h Q))))) : am_R (am_prog scr) (d + 1) f_S_portion 73 [some (.inr (.inr ((0 : Nat) : Int))), some (.inl x1), some (.inl x2), some (.inl x3), some (.inr (.inl x4)), none, some (.inr (.inl x6)), none, some (.inl x8), none] [] h Q := by
  have hp : ∀ k, (am_prog scr).1 f_S_portion k = c_S_portion k := fun _ => rfl
  refine am_R.next ((hp 73).trans rfl) rfl ?_
  refine am_R.next ((hp 75).trans rfl) rfl ?_
  refine r_ic ((hp 76).trans rfl) (fun c9 => ?_) (fun c9 => ?_)
  · have H := H.1 c9
    refine am_R.next ((hp 93).trans rfl) rfl ?_
    refine am_R.next ((hp 95).trans rfl) rfl ?_
    refine r_cs (as := [.inr (.inl x4), .inr (.inl x6)]) (st' := []) ((hp 97).trans rfl) rfl rfl (Nat.le_of_ble_eq_true rfl) (Nat.le_of_ble_eq_true rfl) (am_R.post H (fun v g1 hq => ?_))
    obtain ⟨r2, rfl, hw, H⟩ := hq
    change am_R _ _ _ _ _ [.inr (.inl r2)] _ _
    refine am_R.next (lv' := [some (.inr (.inr ((0 : Nat) : Int))), some (.inl x1), some (.inl x2), some (.inl x3), some (.inr (.inl x4)), none, some (.inr (.inl x6)), none, some (.inr (.inl r2)), none]) ((hp 100).trans rfl) rfl ?_
    refine am_R.next ((hp 102).trans rfl) rfl ?_
    refine am_R.next ((hp 104).trans rfl) rfl ?_
    refine am_R.next ((hp 105).trans rfl) rfl ?_
    refine r_if ((hp 106).trans rfl) (fun c6 => ?_) (fun c6 => ?_)
    · have H := H.1 (lc_get c6)
      refine am_R.next ((hp 111).trans rfl) rfl ?_
      refine r_if ((hp 112).trans rfl) (fun c5 => ?_) (fun c5 => ?_)
      · have H := H.1 c5
        refine am_R.next ((hp 120).trans rfl) rfl ?_
        refine am_R.next ((hp 122).trans rfl) rfl ?_
        obtain ⟨c3, H⟩ := H
        refine r_l2z ((hp 124).trans rfl) c3 ?_
        refine am_R.next ((hp 125).trans rfl) rfl ?_
        exact am_R.ret ((hp 126).trans rfl) rfl H
      · have H := H.2 (Decidable.not_not.mp c5)
        refine am_R.next ((hp 115).trans rfl) rfl ?_
        refine am_R.next ((hp 117).trans rfl) rfl ?_
        refine am_R.next ((hp 122).trans rfl) rfl ?_
        obtain ⟨c4, H⟩ := H
        refine r_l2z ((hp 124).trans rfl) c4 ?_
        refine am_R.next ((hp 125).trans rfl) rfl ?_
        exact am_R.ret ((hp 126).trans rfl) rfl H
    · have H := H.2 (lc_gef c6)
      refine am_R.next ((hp 109).trans rfl) rfl ?_
      exact am_R.ret ((hp 110).trans rfl) rfl H
  · have H := H.2 (Decidable.not_not.mp c9)
    refine am_R.next ((hp 79).trans rfl) rfl ?_
    refine am_R.next ((hp 81).trans rfl) rfl ?_
    refine am_R.next ((hp 84).trans rfl) rfl ?_
    obtain ⟨y7, ey7⟩ : ∃ z : Int, z = am_W (x6 * 10) := ⟨_, rfl⟩
    have H := H y7 ey7
    refine am_R.next (lv' := [some (.inr (.inr ((0 : Nat) : Int))), some (.inl x1), some (.inl x2), some (.inl x3), some (.inr (.inl x4)), none, some (.inr (.inl y7)), none, some (.inl x8), none]) (st' := []) (h' := h) (pc' := 87) ((hp 85).trans rfl) (by rw [ey7]; rfl) ?_
    obtain ⟨y8, ey8⟩ : ∃ z : Int, z = am_w (x8 + 1) := ⟨_, rfl⟩
    have H := H y8 ey8
    refine am_R.next (lv' := [some (.inr (.inr ((0 : Nat) : Int))), some (.inl x1), some (.inl x2), some (.inl x3), some (.inr (.inl x4)), none, some (.inr (.inl y7)), none, some (.inl y8), none]) (st' := []) (h' := h) (pc' := 90) ((hp 87).trans rfl) (by rw [ey8]; rfl) ?_
    refine am_R.next ((hp 90).trans rfl) rfl ?_
    exact H
theorem w_S_numbers_0 {scr : Nat × (Nat → Int)} {d : Nat} {h : am_H} {Q : Option am_V → am_H → Prop} {x1 x2 x3 : Int} (hs : am_sc scr) (hw : wf h) (H : (x1 < 0 → (Q (some (.inl (-2))) h)) ∧ (¬ (x1 < 0) → ((¬ (x1 < 4) → (Q (some (.inl (-2))) h)) ∧ (x1 < 4 → ((x2 < 0 → (Q (some (.inl (-2))) h)) ∧ (¬ (x2 < 0) → ((x2 ≤ 3 → ((x3 < 0 → (Q (some (.inl (-3))) h)) ∧ (¬ (x3 < 0) → ((x3 ≤ 40 → ((0 ≤ x1 ∧ x1 < 4) ∧ (am_R (am_prog scr) d f_Tray_lay 0 [some (.inr (.inr (((95 + 2 * x1.toNat) : Nat) : Int))), some (.inl x2), some (.inl x3)] [] h (fun v g2 => v = none ∧ wf g2 ∧ (Q (some (.inl 0)) g2))))) ∧ (¬ (x3 ≤ 40) → (Q (some (.inl (-3))) h)))))) ∧ (¬ (x2 ≤ 3) → (Q (some (.inl (-2))) h))))))))) : am_R (am_prog scr) (d + 1) f_S_numbers 0 [some (.inr (.inr ((0 : Nat) : Int))), some (.inl x1), some (.inl x2), some (.inl x3)] [] h Q := by
  have hp : ∀ k, (am_prog scr).1 f_S_numbers k = c_S_numbers k := fun _ => rfl
  refine am_R.next ((hp 0).trans rfl) rfl ?_
  refine r_if ((hp 1).trans rfl) (fun c8 => ?_) (fun c8 => ?_)
  · have H := H.1 c8
    refine am_R.next ((hp 22).trans rfl) rfl ?_
    exact am_R.ret ((hp 24).trans rfl) rfl H
  · have H := H.2 c8
    refine am_R.next ((hp 4).trans rfl) rfl ?_
    refine am_R.next ((hp 5).trans rfl) rfl ?_
    refine r_getR ((hp 6).trans rfl) (hw.o (i := 0) (by decide) rfl) (hw.r wr_0_15) ?_
    refine r_alen (n := 4) ((hp 9).trans rfl) (hw.l (i := 17) (by decide) rfl (by decide)) (congrArg Prod.snd (hw.k (i := 17) (x := (6, 4)) (by decide) rfl)) ?_
    refine r_ic ((hp 10).trans rfl) (fun c7 => ?_) (fun c7 => ?_)
    · have H := H.1 c7
      refine am_R.next ((hp 22).trans rfl) rfl ?_
      exact am_R.ret ((hp 24).trans rfl) rfl H
    · have H := H.2 (Decidable.not_not.mp c7)
      refine am_R.next ((hp 13).trans rfl) rfl ?_
      refine r_if ((hp 14).trans rfl) (fun c6 => ?_) (fun c6 => ?_)
      · have H := H.1 c6
        refine am_R.next ((hp 22).trans rfl) rfl ?_
        exact am_R.ret ((hp 24).trans rfl) rfl H
      · have H := H.2 c6
        refine am_R.next ((hp 17).trans rfl) rfl ?_
        refine am_R.next ((hp 18).trans rfl) rfl ?_
        refine r_ic ((hp 19).trans rfl) (fun c5 => ?_) (fun c5 => ?_)
        · have H := H.1 c5
          refine am_R.next ((hp 25).trans rfl) rfl ?_
          refine r_if ((hp 26).trans rfl) (fun c4 => ?_) (fun c4 => ?_)
          · have H := H.1 c4
            refine am_R.next ((hp 35).trans rfl) rfl ?_
            exact am_R.ret ((hp 37).trans rfl) rfl H
          · have H := H.2 c4
            refine am_R.next ((hp 29).trans rfl) rfl ?_
            refine am_R.next ((hp 30).trans rfl) rfl ?_
            refine r_ic ((hp 32).trans rfl) (fun c3 => ?_) (fun c3 => ?_)
            · have H := H.1 c3
              refine am_R.next ((hp 38).trans rfl) rfl ?_
              refine r_getR ((hp 39).trans rfl) (hw.o (i := 0) (by decide) rfl) (hw.r wr_0_15) ?_
              refine am_R.next ((hp 42).trans rfl) rfl ?_
              obtain ⟨c1, H⟩ := H
              refine r_aald ((hp 43).trans rfl) (hw.a (i := 17) (by decide) rfl c1.1 c1.2) (tr_all hw c1).2 ?_
              refine am_R.next ((hp 44).trans rfl) rfl ?_
              refine am_R.next ((hp 45).trans rfl) rfl ?_
              refine r_cv (bs := [.inl x2, .inl x3]) (st' := []) ((hp 46).trans rfl) (tr_o (tr_all hw c1).1 hw) rfl rfl (Nat.le_of_ble_eq_true rfl) (Nat.le_of_ble_eq_true rfl) (am_R.post H (fun v g2 hq => ?_))
              obtain ⟨rfl, hw, H⟩ := hq
              change am_R _ _ _ _ _ [] _ _
              refine am_R.next ((hp 49).trans rfl) rfl ?_
              exact am_R.ret ((hp 50).trans rfl) rfl H
            · have H := H.2 c3
              refine am_R.next ((hp 35).trans rfl) rfl ?_
              exact am_R.ret ((hp 37).trans rfl) rfl H
        · have H := H.2 c5
          refine am_R.next ((hp 22).trans rfl) rfl ?_
          exact am_R.ret ((hp 24).trans rfl) rfl H
theorem w_S_write_0 {scr : Nat × (Nat → Int)} {d : Nat} {h : am_H} {Q : Option am_V → am_H → Prop} {x1 x2 x3 : Int} (hs : am_sc scr) (hw : wf h) (H : am_R (am_prog scr) d f_S_trayRefusal 0 [some (.inr (.inr ((0 : Nat) : Int))), some (.inl x1)] [] h (fun v g1 => ∃ r2 : Int, v = some (.inl r2) ∧ wf g1 ∧ ((r2 = 0 → ((x2 < 0 → (Q (some (.inr (.inl (-7)))) g1)) ∧ (¬ (x2 < 0) → ((0 ≤ x1 ∧ x1 < 4) ∧ ((x2 < (g1.2.2.2 (95 + 2 * x1.toNat) 2) → ((0 ≤ x1 ∧ x1 < 4) ∧ (am_R (am_prog scr) d f_Tray_put 0 [some (.inr (.inr (((95 + 2 * x1.toNat) : Nat) : Int))), some (.inl x2), some (.inr (.inl x3)), none, none, none] [] g1 (fun v g5 => ∃ r6 : Int, v = some (.inr (.inl r6)) ∧ wf g5 ∧ (Q (some (.inr (.inl r6))) g5))))) ∧ (¬ (x2 < (g1.2.2.2 (95 + 2 * x1.toNat) 2)) → (Q (some (.inr (.inl (-7)))) g1))))))) ∧ (¬ (r2 = 0) → (Q (some (.inr (.inl r2))) g1))))) : am_R (am_prog scr) (d + 1) f_S_write 0 [some (.inr (.inr ((0 : Nat) : Int))), some (.inl x1), some (.inl x2), some (.inr (.inl x3)), none, none] [] h Q := by
  have hp : ∀ k, (am_prog scr).1 f_S_write k = c_S_write k := fun _ => rfl
  refine am_R.next ((hp 0).trans rfl) rfl ?_
  refine am_R.next ((hp 1).trans rfl) rfl ?_
  refine r_cv (bs := [.inl x1]) (st' := []) ((hp 2).trans rfl) (hw.o (i := 0) (by decide) rfl) rfl rfl (Nat.le_of_ble_eq_true rfl) (Nat.le_of_ble_eq_true rfl) (am_R.post H (fun v g1 hq => ?_))
  obtain ⟨r2, rfl, hw, H⟩ := hq
  change am_R _ _ _ _ _ [.inl r2] _ _
  refine am_R.next (lv' := [some (.inr (.inr ((0 : Nat) : Int))), some (.inl x1), some (.inl x2), some (.inr (.inl x3)), none, some (.inl r2)]) ((hp 5).trans rfl) rfl ?_
  refine am_R.next ((hp 7).trans rfl) rfl ?_
  refine r_if ((hp 9).trans rfl) (fun c9 => ?_) (fun c9 => ?_)
  · have H := H.1 c9
    refine am_R.next ((hp 16).trans rfl) rfl ?_
    refine r_if ((hp 17).trans rfl) (fun c8 => ?_) (fun c8 => ?_)
    · have H := H.1 c8
      refine am_R.next ((hp 33).trans rfl) rfl ?_
      exact am_R.ret ((hp 36).trans rfl) rfl H
    · have H := H.2 c8
      refine am_R.next ((hp 20).trans rfl) rfl ?_
      refine am_R.next ((hp 21).trans rfl) rfl ?_
      refine r_getR ((hp 22).trans rfl) (hw.o (i := 0) (by decide) rfl) (hw.r wr_0_15) ?_
      refine am_R.next ((hp 25).trans rfl) rfl ?_
      obtain ⟨c3, H⟩ := H
      refine r_aald ((hp 26).trans rfl) (hw.a (i := 17) (by decide) rfl c3.1 c3.2) (tr_all hw c3).2 ?_
      refine r_getI ((hp 27).trans rfl) (tr_o (tr_all hw c3).1 hw) ?_
      refine r_ic ((hp 30).trans rfl) (fun c7 => ?_) (fun c7 => ?_)
      · have H := H.1 c7
        refine am_R.next ((hp 37).trans rfl) rfl ?_
        refine r_getR ((hp 38).trans rfl) (hw.o (i := 0) (by decide) rfl) (hw.r wr_0_15) ?_
        refine am_R.next ((hp 41).trans rfl) rfl ?_
        obtain ⟨c4, H⟩ := H
        refine r_aald ((hp 42).trans rfl) (hw.a (i := 17) (by decide) rfl c4.1 c4.2) (tr_all hw c4).2 ?_
        refine am_R.next ((hp 43).trans rfl) rfl ?_
        refine am_R.next ((hp 44).trans rfl) rfl ?_
        refine r_cv (bs := [.inl x2, .inr (.inl x3)]) (st' := []) ((hp 45).trans rfl) (tr_o (tr_all hw c4).1 hw) rfl rfl (Nat.le_of_ble_eq_true rfl) (Nat.le_of_ble_eq_true rfl) (am_R.post H (fun v g5 hq => ?_))
        obtain ⟨r6, rfl, hw, H⟩ := hq
        change am_R _ _ _ _ _ [.inr (.inl r6)] _ _
        exact am_R.ret ((hp 48).trans rfl) rfl H
      · have H := H.2 c7
        refine am_R.next ((hp 33).trans rfl) rfl ?_
        exact am_R.ret ((hp 36).trans rfl) rfl H
  · have H := H.2 c9
    refine am_R.next ((hp 12).trans rfl) rfl ?_
    refine am_R.next ((hp 14).trans rfl) rfl ?_
    exact am_R.ret ((hp 15).trans rfl) rfl H
theorem w_S_lists_0 {scr : Nat × (Nat → Int)} {d : Nat} {h : am_H} {Q : Option am_V → am_H → Prop} {x1 x2 : Int} (hs : am_sc scr) (hw : wf h) (H : (x2 < 0 → (Q (some (.inl (-2))) h)) ∧ (¬ (x2 < 0) → ((x2 ≤ 1 → (am_R (am_prog scr) d f_S_trayRefusal 0 [some (.inr (.inr ((0 : Nat) : Int))), some (.inl x1)] [] h (fun v g1 => ∃ r2 : Int, v = some (.inl r2) ∧ wf g1 ∧ ((r2 = 0 → (am_R (am_prog scr) d f_Play_takeFrom 0 [some (.inr (.inr ((27 : Nat) : Int))), some (.inr (.inr ((24 : Nat) : Int)))] [] g1 (fun v g3 => v = none ∧ wf g3 ∧ (am_R (am_prog scr) (d + 1) f_S_lists 38 [some (.inr (.inr ((0 : Nat) : Int))), some (.inl x1), some (.inl x2), some (.inl r2), some (.inl 0)] [] g3 Q)))) ∧ (¬ (r2 = 0) → (Q (some (.inl r2)) g1)))))) ∧ (¬ (x2 ≤ 1) → (Q (some (.inl (-2))) h))))) : am_R (am_prog scr) (d + 1) f_S_lists 0 [some (.inr (.inr ((0 : Nat) : Int))), some (.inl x1), some (.inl x2), none, none] [] h Q := by
  have hp : ∀ k, (am_prog scr).1 f_S_lists k = c_S_lists k := fun _ => rfl
  refine am_R.next ((hp 0).trans rfl) rfl ?_
  refine r_if ((hp 1).trans rfl) (fun c6 => ?_) (fun c6 => ?_)
  · have H := H.1 c6
    refine am_R.next ((hp 9).trans rfl) rfl ?_
    exact am_R.ret ((hp 11).trans rfl) rfl H
  · have H := H.2 c6
    refine am_R.next ((hp 4).trans rfl) rfl ?_
    refine am_R.next ((hp 5).trans rfl) rfl ?_
    refine r_ic ((hp 6).trans rfl) (fun c5 => ?_) (fun c5 => ?_)
    · have H := H.1 c5
      refine am_R.next ((hp 12).trans rfl) rfl ?_
      refine am_R.next ((hp 13).trans rfl) rfl ?_
      refine r_cv (bs := [.inl x1]) (st' := []) ((hp 14).trans rfl) (hw.o (i := 0) (by decide) rfl) rfl rfl (Nat.le_of_ble_eq_true rfl) (Nat.le_of_ble_eq_true rfl) (am_R.post H (fun v g1 hq => ?_))
      obtain ⟨r2, rfl, hw, H⟩ := hq
      change am_R _ _ _ _ _ [.inl r2] _ _
      refine am_R.next (lv' := [some (.inr (.inr ((0 : Nat) : Int))), some (.inl x1), some (.inl x2), some (.inl r2), none]) ((hp 17).trans rfl) rfl ?_
      refine am_R.next ((hp 18).trans rfl) rfl ?_
      refine r_if ((hp 19).trans rfl) (fun c4 => ?_) (fun c4 => ?_)
      · have H := H.1 c4
        refine am_R.next ((hp 24).trans rfl) rfl ?_
        refine r_getR ((hp 25).trans rfl) (hw.o (i := 0) (by decide) rfl) (hw.r wr_0_13) ?_
        refine am_R.next ((hp 28).trans rfl) rfl ?_
        refine r_getR ((hp 29).trans rfl) (hw.o (i := 0) (by decide) rfl) (hw.r wr_0_12) ?_
        refine r_cv (bs := [.inr (.inr ((24 : Nat) : Int))]) (st' := []) ((hp 32).trans rfl) (hw.o (i := 27) (by decide) rfl) rfl rfl (Nat.le_of_ble_eq_true rfl) (Nat.le_of_ble_eq_true rfl) (am_R.post H (fun v g3 hq => ?_))
        obtain ⟨rfl, hw, H⟩ := hq
        change am_R _ _ _ _ _ [] _ _
        refine am_R.next ((hp 35).trans rfl) rfl ?_
        refine am_R.next (lv' := [some (.inr (.inr ((0 : Nat) : Int))), some (.inl x1), some (.inl x2), some (.inl r2), some (.inl 0)]) ((hp 36).trans rfl) rfl ?_
        exact H
      · have H := H.2 c4
        refine am_R.next ((hp 22).trans rfl) rfl ?_
        exact am_R.ret ((hp 23).trans rfl) rfl H
    · have H := H.2 c5
      refine am_R.next ((hp 9).trans rfl) rfl ?_
      exact am_R.ret ((hp 11).trans rfl) rfl H
theorem w_S_lists_38 {scr : Nat × (Nat → Int)} {d : Nat} {h : am_H} {Q : Option am_V → am_H → Prop} {x1 x2 x3 x4 : Int} (hs : am_sc scr) (hw : wf h) (H : (0 ≤ x1 ∧ x1 < 4) ∧ ((¬ (x4 < (h.2.2.2 (95 + 2 * x1.toNat) 2)) → (Q (some (.inl x4)) h)) ∧ (x4 < (h.2.2.2 (95 + 2 * x1.toNat) 2) → (am_R (am_prog scr) d f_Play_goesOn 0 [some (.inr (.inr ((27 : Nat) : Int)))] [] h (fun v g2 => ∃ r3 : Int, v = some (.inl r3) ∧ wf g2 ∧ ((r3 = 0 → (Q (some (.inl x4)) g2)) ∧ (¬ (r3 = 0) → (am_R (am_prog scr) d f_Stage_step 0 [some (.inr (.inr ((9 : Nat) : Int))), some (.inr (.inr ((27 : Nat) : Int))), some (.inl (-1)), none, none, none, none] [] g2 (fun v g4 => ∃ r5 : Int, v = some (.inl r5) ∧ wf g4 ∧ ((r5 = (-1) → (Q (some (.inl x4)) g4)) ∧ (¬ (r5 = (-1)) → ((0 ≤ x1 ∧ x1 < 4) ∧ ((¬ (x2 = 0) → (am_R (am_prog scr) d f_Tray_put 0 [some (.inr (.inr (((95 + 2 * x1.toNat) : Nat) : Int))), some (.inl x4), some (.inr (.inl (g4.2.2.2 27 5))), none, none, none] [] g4 (fun v g7 => ∃ r8 : Int, v = some (.inr (.inl r8)) ∧ wf g7 ∧ (∀ y9 : Int, y9 = am_w (x4 + 1) → (am_R (am_prog scr) (d + 1) f_S_lists 38 [some (.inr (.inr ((0 : Nat) : Int))), some (.inl x1), some (.inl x2), some (.inl x3), some (.inl y9)] [] g7 Q))))) ∧ (x2 = 0 → (am_R (am_prog scr) d f_Tray_put 0 [some (.inr (.inr (((95 + 2 * x1.toNat) : Nat) : Int))), some (.inl x4), some (.inr (.inl (g4.2.2.2 27 4))), none, none, none] [] g4 (fun v g10 => ∃ r11 : Int, v = some (.inr (.inl r11)) ∧ wf g10 ∧ (∀ y12 : Int, y12 = am_w (x4 + 1) → (am_R (am_prog scr) (d + 1) f_S_lists 38 [some (.inr (.inr ((0 : Nat) : Int))), some (.inl x1), some (.inl x2), some (.inl x3), some (.inl y12)] [] g10 Q)))))))))))))))))) : am_R (am_prog scr) (d + 1) f_S_lists 38 [some (.inr (.inr ((0 : Nat) : Int))), some (.inl x1), some (.inl x2), some (.inl x3), some (.inl x4)] [] h Q := by
  have hp : ∀ k, (am_prog scr).1 f_S_lists k = c_S_lists k := fun _ => rfl
  refine am_R.next ((hp 38).trans rfl) rfl ?_
  refine am_R.next ((hp 40).trans rfl) rfl ?_
  refine r_getR ((hp 41).trans rfl) (hw.o (i := 0) (by decide) rfl) (hw.r wr_0_15) ?_
  refine am_R.next ((hp 44).trans rfl) rfl ?_
  obtain ⟨c1, H⟩ := H
  refine r_aald ((hp 45).trans rfl) (hw.a (i := 17) (by decide) rfl c1.1 c1.2) (tr_all hw c1).2 ?_
  refine r_getI ((hp 46).trans rfl) (tr_o (tr_all hw c1).1 hw) ?_
  refine r_ic ((hp 49).trans rfl) (fun c16 => ?_) (fun c16 => ?_)
  · have H := H.1 c16
    refine am_R.next ((hp 119).trans rfl) rfl ?_
    exact am_R.ret ((hp 121).trans rfl) rfl H
  · have H := H.2 (Decidable.not_not.mp c16)
    refine am_R.next ((hp 52).trans rfl) rfl ?_
    refine r_getR ((hp 53).trans rfl) (hw.o (i := 0) (by decide) rfl) (hw.r wr_0_13) ?_
    refine r_cv (bs := []) (st' := []) ((hp 56).trans rfl) (hw.o (i := 27) (by decide) rfl) rfl rfl (Nat.le_of_ble_eq_true rfl) (Nat.le_of_ble_eq_true rfl) (am_R.post H (fun v g2 hq => ?_))
    obtain ⟨r3, rfl, hw, H⟩ := hq
    change am_R _ _ _ _ _ [.inl r3] _ _
    refine r_if ((hp 59).trans rfl) (fun c15 => ?_) (fun c15 => ?_)
    · have H := H.1 c15
      refine am_R.next ((hp 119).trans rfl) rfl ?_
      exact am_R.ret ((hp 121).trans rfl) rfl H
    · have H := H.2 c15
      refine am_R.next ((hp 62).trans rfl) rfl ?_
      refine r_getR ((hp 63).trans rfl) (hw.o (i := 0) (by decide) rfl) (hw.r wr_0_7) ?_
      refine am_R.next ((hp 66).trans rfl) rfl ?_
      refine r_getR ((hp 67).trans rfl) (hw.o (i := 0) (by decide) rfl) (hw.r wr_0_13) ?_
      refine am_R.next ((hp 70).trans rfl) rfl ?_
      refine r_cv (bs := [.inr (.inr ((27 : Nat) : Int)), .inl (-1)]) (st' := []) ((hp 71).trans rfl) (hw.o (i := 9) (by decide) rfl) rfl rfl (Nat.le_of_ble_eq_true rfl) (Nat.le_of_ble_eq_true rfl) (am_R.post H (fun v g4 hq => ?_))
      obtain ⟨r5, rfl, hw, H⟩ := hq
      change am_R _ _ _ _ _ [.inl r5] _ _
      refine am_R.next ((hp 74).trans rfl) rfl ?_
      refine r_ic ((hp 75).trans rfl) (fun c14 => ?_) (fun c14 => ?_)
      · have H := H.1 c14
        refine am_R.next ((hp 119).trans rfl) rfl ?_
        exact am_R.ret ((hp 121).trans rfl) rfl H
      · have H := H.2 c14
        refine am_R.next ((hp 78).trans rfl) rfl ?_
        refine r_getR ((hp 79).trans rfl) (hw.o (i := 0) (by decide) rfl) (hw.r wr_0_15) ?_
        refine am_R.next ((hp 82).trans rfl) rfl ?_
        obtain ⟨c6, H⟩ := H
        refine r_aald ((hp 83).trans rfl) (hw.a (i := 17) (by decide) rfl c6.1 c6.2) (tr_all hw c6).2 ?_
        refine am_R.next ((hp 84).trans rfl) rfl ?_
        refine am_R.next ((hp 86).trans rfl) rfl ?_
        refine r_if ((hp 87).trans rfl) (fun c13 => ?_) (fun c13 => ?_)
        · have H := H.1 c13
          refine am_R.next ((hp 101).trans rfl) rfl ?_
          refine r_getR ((hp 102).trans rfl) (hw.o (i := 0) (by decide) rfl) (hw.r wr_0_13) ?_
          refine r_getI ((hp 105).trans rfl) (hw.o (i := 27) (by decide) rfl) ?_
          refine am_R.next ((hp 108).trans rfl) rfl ?_
          refine r_cv (bs := [.inl x4, .inr (.inl (g4.2.2.2 27 5))]) (st' := []) ((hp 109).trans rfl) (tr_o (tr_all hw c6).1 hw) rfl rfl (Nat.le_of_ble_eq_true rfl) (Nat.le_of_ble_eq_true rfl) (am_R.post H (fun v g7 hq => ?_))
          obtain ⟨r8, rfl, hw, H⟩ := hq
          change am_R _ _ _ _ _ [.inr (.inl r8)] _ _
          refine am_R.next ((hp 112).trans rfl) rfl ?_
          obtain ⟨y9, ey9⟩ : ∃ z : Int, z = am_w (x4 + 1) := ⟨_, rfl⟩
          have H := H y9 ey9
          refine am_R.next (lv' := [some (.inr (.inr ((0 : Nat) : Int))), some (.inl x1), some (.inl x2), some (.inl x3), some (.inl y9)]) (st' := []) (h' := g7) (pc' := 116) ((hp 113).trans rfl) (by rw [ey9]; rfl) ?_
          refine am_R.next ((hp 116).trans rfl) rfl ?_
          exact H
        · have H := H.2 (Decidable.not_not.mp c13)
          refine am_R.next ((hp 90).trans rfl) rfl ?_
          refine r_getR ((hp 91).trans rfl) (hw.o (i := 0) (by decide) rfl) (hw.r wr_0_13) ?_
          refine r_getI ((hp 94).trans rfl) (hw.o (i := 27) (by decide) rfl) ?_
          refine am_R.next ((hp 97).trans rfl) rfl ?_
          refine am_R.next ((hp 98).trans rfl) rfl ?_
          refine r_cv (bs := [.inl x4, .inr (.inl (g4.2.2.2 27 4))]) (st' := []) ((hp 109).trans rfl) (tr_o (tr_all hw c6).1 hw) rfl rfl (Nat.le_of_ble_eq_true rfl) (Nat.le_of_ble_eq_true rfl) (am_R.post H (fun v g10 hq => ?_))
          obtain ⟨r11, rfl, hw, H⟩ := hq
          change am_R _ _ _ _ _ [.inr (.inl r11)] _ _
          refine am_R.next ((hp 112).trans rfl) rfl ?_
          obtain ⟨y12, ey12⟩ : ∃ z : Int, z = am_w (x4 + 1) := ⟨_, rfl⟩
          have H := H y12 ey12
          refine am_R.next (lv' := [some (.inr (.inr ((0 : Nat) : Int))), some (.inl x1), some (.inl x2), some (.inl x3), some (.inl y12)]) (st' := []) (h' := g10) (pc' := 116) ((hp 113).trans rfl) (by rw [ey12]; rfl) ?_
          refine am_R.next ((hp 116).trans rfl) rfl ?_
          exact H
theorem w_S_image_0 {scr : Nat × (Nat → Int)} {d : Nat} {h : am_H} {Q : Option am_V → am_H → Prop} {x1 : Int} (hs : am_sc scr) (hw : wf h) (H : (x1 < 0 → (Q (some (.inl (-2))) h)) ∧ (¬ (x1 < 0) → ((x1 < 2 → ((0 ≤ x1 ∧ x1 < 2) ∧ (am_R (am_prog scr) d f_Play_takeFrom 0 [some (.inr (.inr (((103 + 3 * x1.toNat) : Nat) : Int))), some (.inr (.inr ((24 : Nat) : Int)))] [] h (fun v g2 => v = none ∧ wf g2 ∧ (((0 ≤ x1 ∧ x1 < 2)) ∧ (∀ h4 : am_H, h4 = am_put g2 19 x1.toNat 1 → (Q (some (.inl 0)) h4))))))) ∧ (¬ (x1 < 2) → (Q (some (.inl (-2))) h))))) : am_R (am_prog scr) (d + 1) f_S_image 0 [some (.inr (.inr ((0 : Nat) : Int))), some (.inl x1)] [] h Q := by
  have hp : ∀ k, (am_prog scr).1 f_S_image k = c_S_image k := fun _ => rfl
  refine am_R.next ((hp 0).trans rfl) rfl ?_
  refine r_if ((hp 1).trans rfl) (fun c6 => ?_) (fun c6 => ?_)
  · have H := H.1 c6
    refine am_R.next ((hp 13).trans rfl) rfl ?_
    exact am_R.ret ((hp 15).trans rfl) rfl H
  · have H := H.2 c6
    refine am_R.next ((hp 4).trans rfl) rfl ?_
    refine am_R.next ((hp 5).trans rfl) rfl ?_
    refine r_getR ((hp 6).trans rfl) (hw.o (i := 0) (by decide) rfl) (hw.r wr_0_16) ?_
    refine r_alen (n := 2) ((hp 9).trans rfl) (hw.l (i := 18) (by decide) rfl (by decide)) (congrArg Prod.snd (hw.k (i := 18) (x := (5, 2)) (by decide) rfl)) ?_
    refine r_ic ((hp 10).trans rfl) (fun c5 => ?_) (fun c5 => ?_)
    · have H := H.1 c5
      refine am_R.next ((hp 16).trans rfl) rfl ?_
      refine r_getR ((hp 17).trans rfl) (hw.o (i := 0) (by decide) rfl) (hw.r wr_0_16) ?_
      refine am_R.next ((hp 20).trans rfl) rfl ?_
      obtain ⟨c1, H⟩ := H
      refine r_aald ((hp 21).trans rfl) (hw.a (i := 18) (by decide) rfl c1.1 c1.2) (pl_img hw c1).2 ?_
      refine am_R.next ((hp 22).trans rfl) rfl ?_
      refine r_getR ((hp 23).trans rfl) (hw.o (i := 0) (by decide) rfl) (hw.r wr_0_12) ?_
      refine r_cv (bs := [.inr (.inr ((24 : Nat) : Int))]) (st' := []) ((hp 26).trans rfl) (pl_o (pl_img hw c1).1 hw) rfl rfl (Nat.le_of_ble_eq_true rfl) (Nat.le_of_ble_eq_true rfl) (am_R.post H (fun v g2 hq => ?_))
      obtain ⟨rfl, hw, H⟩ := hq
      change am_R _ _ _ _ _ [] _ _
      refine am_R.next ((hp 29).trans rfl) rfl ?_
      refine r_getR ((hp 30).trans rfl) (hw.o (i := 0) (by decide) rfl) (hw.r wr_0_17) ?_
      refine am_R.next ((hp 33).trans rfl) rfl ?_
      refine am_R.next ((hp 34).trans rfl) rfl ?_
      obtain ⟨c3, H⟩ := H
      obtain ⟨h4, eh4⟩ : ∃ z : am_H, z = am_put g2 19 x1.toNat 1 := ⟨_, rfl⟩
      have H := H h4 eh4
      refine r_zast ((hp 35).trans rfl) (hw.a (i := 19) (by decide) rfl c3.1 c3.2) (Or.inr rfl) ?_
      have hw : wf h4 := by rw [eh4]; exact hw.pa na_19
      change am_R _ _ _ _ _ _ (am_put g2 19 x1.toNat 1) _
      rw [← eh4]
      refine am_R.next ((hp 36).trans rfl) rfl ?_
      exact am_R.ret ((hp 37).trans rfl) rfl H
    · have H := H.2 c5
      refine am_R.next ((hp 13).trans rfl) rfl ?_
      exact am_R.ret ((hp 15).trans rfl) rfl H
theorem w_S_restore_0 {scr : Nat × (Nat → Int)} {d : Nat} {h : am_H} {Q : Option am_V → am_H → Prop} {x1 : Int} (hs : am_sc scr) (hw : wf h) (H : (x1 < 0 → (Q (some (.inl (-2))) h)) ∧ (¬ (x1 < 0) → ((x1 < 2 → ((0 ≤ x1 ∧ x1 < 2) ∧ ((¬ ((h.2.2.2 19 x1.toNat) = 0) → ((0 ≤ x1 ∧ x1 < 2) ∧ (am_R (am_prog scr) d f_Play_takeFrom 0 [some (.inr (.inr ((24 : Nat) : Int))), some (.inr (.inr (((103 + 3 * x1.toNat) : Nat) : Int)))] [] h (fun v g3 => v = none ∧ wf g3 ∧ (am_R (am_prog scr) d f_Past_forget 0 [some (.inr (.inr ((63 : Nat) : Int)))] [] g3 (fun v g4 => v = none ∧ wf g4 ∧ (Q (some (.inl 0)) g4))))))) ∧ ((h.2.2.2 19 x1.toNat) = 0 → (Q (some (.inl (-5))) h))))) ∧ (¬ (x1 < 2) → (Q (some (.inl (-2))) h))))) : am_R (am_prog scr) (d + 1) f_S_restore 0 [some (.inr (.inr ((0 : Nat) : Int))), some (.inl x1)] [] h Q := by
  have hp : ∀ k, (am_prog scr).1 f_S_restore k = c_S_restore k := fun _ => rfl
  refine am_R.next ((hp 0).trans rfl) rfl ?_
  refine r_if ((hp 1).trans rfl) (fun c7 => ?_) (fun c7 => ?_)
  · have H := H.1 c7
    refine am_R.next ((hp 13).trans rfl) rfl ?_
    exact am_R.ret ((hp 15).trans rfl) rfl H
  · have H := H.2 c7
    refine am_R.next ((hp 4).trans rfl) rfl ?_
    refine am_R.next ((hp 5).trans rfl) rfl ?_
    refine r_getR ((hp 6).trans rfl) (hw.o (i := 0) (by decide) rfl) (hw.r wr_0_16) ?_
    refine r_alen (n := 2) ((hp 9).trans rfl) (hw.l (i := 18) (by decide) rfl (by decide)) (congrArg Prod.snd (hw.k (i := 18) (x := (5, 2)) (by decide) rfl)) ?_
    refine r_ic ((hp 10).trans rfl) (fun c6 => ?_) (fun c6 => ?_)
    · have H := H.1 c6
      refine am_R.next ((hp 16).trans rfl) rfl ?_
      refine r_getR ((hp 17).trans rfl) (hw.o (i := 0) (by decide) rfl) (hw.r wr_0_17) ?_
      refine am_R.next ((hp 20).trans rfl) rfl ?_
      obtain ⟨c1, H⟩ := H
      refine r_zald ((hp 21).trans rfl) (hw.a (i := 19) (by decide) rfl c1.1 c1.2) ?_
      refine r_if ((hp 22).trans rfl) (fun c5 => ?_) (fun c5 => ?_)
      · have H := H.1 c5
        refine am_R.next ((hp 28).trans rfl) rfl ?_
        refine r_getR ((hp 29).trans rfl) (hw.o (i := 0) (by decide) rfl) (hw.r wr_0_12) ?_
        refine am_R.next ((hp 32).trans rfl) rfl ?_
        refine r_getR ((hp 33).trans rfl) (hw.o (i := 0) (by decide) rfl) (hw.r wr_0_16) ?_
        refine am_R.next ((hp 36).trans rfl) rfl ?_
        obtain ⟨c2, H⟩ := H
        refine r_aald ((hp 37).trans rfl) (hw.a (i := 18) (by decide) rfl c2.1 c2.2) (pl_img hw c2).2 ?_
        refine r_cv (bs := [.inr (.inr (((103 + 3 * x1.toNat) : Nat) : Int))]) (st' := []) ((hp 38).trans rfl) (hw.o (i := 24) (by decide) rfl) rfl rfl (Nat.le_of_ble_eq_true rfl) (Nat.le_of_ble_eq_true rfl) (am_R.post H (fun v g3 hq => ?_))
        obtain ⟨rfl, hw, H⟩ := hq
        change am_R _ _ _ _ _ [] _ _
        refine am_R.next ((hp 41).trans rfl) rfl ?_
        refine r_getR ((hp 42).trans rfl) (hw.o (i := 0) (by decide) rfl) (hw.r wr_0_14) ?_
        refine r_cv (bs := []) (st' := []) ((hp 45).trans rfl) (hw.o (i := 63) (by decide) rfl) rfl rfl (Nat.le_of_ble_eq_true rfl) (Nat.le_of_ble_eq_true rfl) (am_R.post H (fun v g4 hq => ?_))
        obtain ⟨rfl, hw, H⟩ := hq
        change am_R _ _ _ _ _ [] _ _
        refine am_R.next ((hp 48).trans rfl) rfl ?_
        exact am_R.ret ((hp 49).trans rfl) rfl H
      · have H := H.2 (Decidable.not_not.mp c5)
        refine am_R.next ((hp 25).trans rfl) rfl ?_
        exact am_R.ret ((hp 27).trans rfl) rfl H
    · have H := H.2 c6
      refine am_R.next ((hp 13).trans rfl) rfl ?_
      exact am_R.ret ((hp 15).trans rfl) rfl H
