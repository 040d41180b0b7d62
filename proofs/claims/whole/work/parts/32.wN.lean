/-! the parts of the system: what the stretches ask for (printed by program) -/
theorem w_Graph_prepare_0 {scr : Nat × (Nat → Int)} {d : Nat} {h : am_H} {Q : Option am_V → am_H → Prop} {p1 : Nat} (hp1 : p1 ∈ PL) (hs : am_sc scr) (hw : wf h) (H : am_R (am_prog scr) d f_Play_setting 0 [some (.inr (.inr ((p1 : Nat) : Int))), none, none, none] [] h (fun v g1 => ∃ r2 : Int, v = some (.inr (.inl r2)) ∧ wf g1 ∧ ((¬ (r2 = (g1.2.2.2 30 4)) → (((0 : Int) = 0 → (am_R (am_prog scr) (d + 1) f_Graph_prepare 34 [some (.inr (.inr ((30 : Nat) : Int))), some (.inr (.inr ((p1 : Nat) : Int))), some (.inl 0), none, none] [] g1 Q)) ∧ (¬ ((0 : Int) = 0) → (am_R (am_prog scr) d f_Play_node 0 [some (.inr (.inr ((p1 : Nat) : Int)))] [] g1 (fun v g3 => ∃ r4 : Int, v = some (.inl r4) ∧ wf g3 ∧ ((¬ (r4 = (g3.2.2.2 30 5)) → (am_R (am_prog scr) (d + 1) f_Graph_prepare 34 [some (.inr (.inr ((30 : Nat) : Int))), some (.inr (.inr ((p1 : Nat) : Int))), some (.inl 0), none, none] [] g3 Q)) ∧ (r4 = (g3.2.2.2 30 5) → (Q none g3)))))))) ∧ (r2 = (g1.2.2.2 30 4) → (((1 : Int) = 0 → (am_R (am_prog scr) (d + 1) f_Graph_prepare 34 [some (.inr (.inr ((30 : Nat) : Int))), some (.inr (.inr ((p1 : Nat) : Int))), some (.inl 1), none, none] [] g1 Q)) ∧ (¬ ((1 : Int) = 0) → (am_R (am_prog scr) d f_Play_node 0 [some (.inr (.inr ((p1 : Nat) : Int)))] [] g1 (fun v g7 => ∃ r8 : Int, v = some (.inl r8) ∧ wf g7 ∧ ((¬ (r8 = (g7.2.2.2 30 5)) → (am_R (am_prog scr) (d + 1) f_Graph_prepare 34 [some (.inr (.inr ((30 : Nat) : Int))), some (.inr (.inr ((p1 : Nat) : Int))), some (.inl 1), none, none] [] g7 Q)) ∧ (r8 = (g7.2.2.2 30 5) → (Q none g7))))))))))) : am_R (am_prog scr) (d + 1) f_Graph_prepare 0 [some (.inr (.inr ((30 : Nat) : Int))), some (.inr (.inr ((p1 : Nat) : Int))), none, none, none] [] h Q := by
  have hp : ∀ k, (am_prog scr).1 f_Graph_prepare k = c_Graph_prepare k := fun _ => rfl
  refine am_R.next ((hp 0).trans rfl) rfl ?_
  refine r_cv (bs := []) (st' := []) ((hp 1).trans rfl) (pl_o hp1 hw) rfl rfl (Nat.le_of_ble_eq_true rfl) (Nat.le_of_ble_eq_true rfl) (am_R.post H (fun v g1 hq => ?_))
  obtain ⟨r2, rfl, hw, H⟩ := hq
  change am_R _ _ _ _ _ [.inr (.inl r2)] _ _
  refine am_R.next ((hp 4).trans rfl) rfl ?_
  refine r_getL ((hp 5).trans rfl) (hw.o (i := 30) (by decide) rfl) ?_
  refine am_R.next ((hp 8).trans rfl) rfl ?_
  refine r_if ((hp 9).trans rfl) (fun c11 => ?_) (fun c11 => ?_)
  · have H := H.1 (lc_net c11)
    refine am_R.next ((hp 16).trans rfl) rfl ?_
    refine am_R.next (lv' := [some (.inr (.inr ((30 : Nat) : Int))), some (.inr (.inr ((p1 : Nat) : Int))), some (.inl 0), none, none]) ((hp 17).trans rfl) rfl ?_
    refine am_R.next ((hp 18).trans rfl) rfl ?_
    refine r_if ((hp 19).trans rfl) (fun c6 => ?_) (fun c6 => ?_)
    · have H := H.1 c6
      exact H
    · have H := H.2 c6
      refine am_R.next ((hp 22).trans rfl) rfl ?_
      refine r_cv (bs := []) (st' := []) ((hp 23).trans rfl) (pl_o hp1 hw) rfl rfl (Nat.le_of_ble_eq_true rfl) (Nat.le_of_ble_eq_true rfl) (am_R.post H (fun v g3 hq => ?_))
      obtain ⟨r4, rfl, hw, H⟩ := hq
      change am_R _ _ _ _ _ [.inl r4] _ _
      refine am_R.next ((hp 26).trans rfl) rfl ?_
      refine r_getI ((hp 27).trans rfl) (hw.o (i := 30) (by decide) rfl) ?_
      refine r_ic ((hp 30).trans rfl) (fun c5 => ?_) (fun c5 => ?_)
      · have H := H.1 c5
        exact H
      · have H := H.2 (Decidable.not_not.mp c5)
        exact am_R.ret ((hp 33).trans rfl) rfl H
  · have H := H.2 (lc_nef c11)
    refine am_R.next ((hp 12).trans rfl) rfl ?_
    refine am_R.next ((hp 13).trans rfl) rfl ?_
    refine am_R.next (lv' := [some (.inr (.inr ((30 : Nat) : Int))), some (.inr (.inr ((p1 : Nat) : Int))), some (.inl 1), none, none]) ((hp 17).trans rfl) rfl ?_
    refine am_R.next ((hp 18).trans rfl) rfl ?_
    refine r_if ((hp 19).trans rfl) (fun c10 => ?_) (fun c10 => ?_)
    · have H := H.1 c10
      exact H
    · have H := H.2 c10
      refine am_R.next ((hp 22).trans rfl) rfl ?_
      refine r_cv (bs := []) (st' := []) ((hp 23).trans rfl) (pl_o hp1 hw) rfl rfl (Nat.le_of_ble_eq_true rfl) (Nat.le_of_ble_eq_true rfl) (am_R.post H (fun v g7 hq => ?_))
      obtain ⟨r8, rfl, hw, H⟩ := hq
      change am_R _ _ _ _ _ [.inl r8] _ _
      refine am_R.next ((hp 26).trans rfl) rfl ?_
      refine r_getI ((hp 27).trans rfl) (hw.o (i := 30) (by decide) rfl) ?_
      refine r_ic ((hp 30).trans rfl) (fun c9 => ?_) (fun c9 => ?_)
      · have H := H.1 c9
        exact H
      · have H := H.2 (Decidable.not_not.mp c9)
        exact am_R.ret ((hp 33).trans rfl) rfl H
theorem w_Graph_prepare_34 {scr : Nat × (Nat → Int)} {d : Nat} {h : am_H} {Q : Option am_V → am_H → Prop} {x2 : Int} {p1 : Nat} (hp1 : p1 ∈ PL) (hs : am_sc scr) (hw : wf h) (H : (¬ (x2 = 0) → (am_R (am_prog scr) (d + 1) f_Graph_prepare 62 [some (.inr (.inr ((30 : Nat) : Int))), some (.inr (.inr ((p1 : Nat) : Int))), some (.inl x2), none, none] [] h Q)) ∧ (x2 = 0 → (am_R (am_prog scr) d f_Play_setting 0 [some (.inr (.inr ((p1 : Nat) : Int))), none, none, none] [] h (fun v g1 => ∃ r2 : Int, v = some (.inr (.inl r2)) ∧ wf g1 ∧ (∀ h3 : am_H, h3 = am_put g1 30 4 r2 → (am_R (am_prog scr) d f_Play_takeFrom 0 [some (.inr (.inr ((31 : Nat) : Int))), some (.inr (.inr ((p1 : Nat) : Int)))] [] h3 (fun v g4 => v = none ∧ wf g4 ∧ (am_R (am_prog scr) d f_jA_fill2 0 [some (.inr (.inr ((34 : Nat) : Int))), some (.inl (-1)), none, none] [] g4 (fun v g5 => v = none ∧ wf g5 ∧ (am_R (am_prog scr) (d + 1) f_Graph_prepare 62 [some (.inr (.inr ((30 : Nat) : Int))), some (.inr (.inr ((p1 : Nat) : Int))), some (.inl x2), none, none] [] g5 Q)))))))))) : am_R (am_prog scr) (d + 1) f_Graph_prepare 34 [some (.inr (.inr ((30 : Nat) : Int))), some (.inr (.inr ((p1 : Nat) : Int))), some (.inl x2), none, none] [] h Q := by
  have hp : ∀ k, (am_prog scr).1 f_Graph_prepare k = c_Graph_prepare k := fun _ => rfl
  refine am_R.next ((hp 34).trans rfl) rfl ?_
  refine r_if ((hp 35).trans rfl) (fun c6 => ?_) (fun c6 => ?_)
  · have H := H.1 c6
    exact H
  · have H := H.2 (Decidable.not_not.mp c6)
    refine am_R.next ((hp 38).trans rfl) rfl ?_
    refine am_R.next ((hp 39).trans rfl) rfl ?_
    refine r_cv (bs := []) (st' := [.inr (.inr ((30 : Nat) : Int))]) ((hp 40).trans rfl) (pl_o hp1 hw) rfl rfl (Nat.le_of_ble_eq_true rfl) (Nat.le_of_ble_eq_true rfl) (am_R.post H (fun v g1 hq => ?_))
    obtain ⟨r2, rfl, hw, H⟩ := hq
    change am_R _ _ _ _ _ [.inr (.inl r2), .inr (.inr ((30 : Nat) : Int))] _ _
    obtain ⟨h3, eh3⟩ : ∃ z : am_H, z = am_put g1 30 4 r2 := ⟨_, rfl⟩
    have H := H h3 eh3
    refine r_putL ((hp 43).trans rfl) (hw.o (i := 30) (by decide) rfl) ?_
    have hw : wf h3 := by rw [eh3]; exact hw.put np_30_4
    change am_R _ _ _ _ _ _ (am_put g1 30 4 r2) _
    rw [← eh3]
    refine am_R.next ((hp 46).trans rfl) rfl ?_
    refine r_getR ((hp 47).trans rfl) (hw.o (i := 30) (by decide) rfl) (hw.r wr_30_1) ?_
    refine am_R.next ((hp 50).trans rfl) rfl ?_
    refine r_cv (bs := [.inr (.inr ((p1 : Nat) : Int))]) (st' := []) ((hp 51).trans rfl) (hw.o (i := 31) (by decide) rfl) rfl rfl (Nat.le_of_ble_eq_true rfl) (Nat.le_of_ble_eq_true rfl) (am_R.post H (fun v g4 hq => ?_))
    obtain ⟨rfl, hw, H⟩ := hq
    change am_R _ _ _ _ _ [] _ _
    refine am_R.next ((hp 54).trans rfl) rfl ?_
    refine r_getR ((hp 55).trans rfl) (hw.o (i := 30) (by decide) rfl) (hw.r wr_30_2) ?_
    refine am_R.next ((hp 58).trans rfl) rfl ?_
    refine r_cs (as := [.inr (.inr ((34 : Nat) : Int)), .inl (-1)]) (st' := []) ((hp 59).trans rfl) rfl rfl (Nat.le_of_ble_eq_true rfl) (Nat.le_of_ble_eq_true rfl) (am_R.post H (fun v g5 hq => ?_))
    obtain ⟨rfl, hw, H⟩ := hq
    change am_R _ _ _ _ _ [] _ _
    exact H
theorem w_Graph_prepare_62 {scr : Nat × (Nat → Int)} {d : Nat} {h : am_H} {Q : Option am_V → am_H → Prop} {x2 : Int} {p1 : Nat} (hp1 : p1 ∈ PL) (hs : am_sc scr) (hw : wf h) (H : am_R (am_prog scr) d f_Play_node 0 [some (.inr (.inr ((p1 : Nat) : Int)))] [] h (fun v g1 => ∃ r2 : Int, v = some (.inl r2) ∧ wf g1 ∧ (∀ h3 : am_H, h3 = am_put g1 30 5 r2 → (am_R (am_prog scr) d f_jA_fill2 0 [some (.inr (.inr ((37 : Nat) : Int))), some (.inl 0), none, none] [] h3 (fun v g4 => v = none ∧ wf g4 ∧ (∀ h5 : am_H, h5 = am_put g4 30 7 0 → (am_R (am_prog scr) d f_Graph_reach 0 [some (.inr (.inr ((30 : Nat) : Int))), some (.inl (h5.2.2.2 30 5))] [] h5 (fun v g6 => v = none ∧ wf g6 ∧ (am_R (am_prog scr) (d + 1) f_Graph_prepare 93 [some (.inr (.inr ((30 : Nat) : Int))), some (.inr (.inr ((p1 : Nat) : Int))), some (.inl x2), some (.inl 0), none] [] g6 Q))))))))) : am_R (am_prog scr) (d + 1) f_Graph_prepare 62 [some (.inr (.inr ((30 : Nat) : Int))), some (.inr (.inr ((p1 : Nat) : Int))), some (.inl x2), none, none] [] h Q := by
  have hp : ∀ k, (am_prog scr).1 f_Graph_prepare k = c_Graph_prepare k := fun _ => rfl
  refine am_R.next ((hp 62).trans rfl) rfl ?_
  refine am_R.next ((hp 63).trans rfl) rfl ?_
  refine r_cv (bs := []) (st' := [.inr (.inr ((30 : Nat) : Int))]) ((hp 64).trans rfl) (pl_o hp1 hw) rfl rfl (Nat.le_of_ble_eq_true rfl) (Nat.le_of_ble_eq_true rfl) (am_R.post H (fun v g1 hq => ?_))
  obtain ⟨r2, rfl, hw, H⟩ := hq
  change am_R _ _ _ _ _ [.inl r2, .inr (.inr ((30 : Nat) : Int))] _ _
  obtain ⟨h3, eh3⟩ : ∃ z : am_H, z = am_put g1 30 5 r2 := ⟨_, rfl⟩
  have H := H h3 eh3
  refine r_putI ((hp 67).trans rfl) (hw.o (i := 30) (by decide) rfl) ?_
  have hw : wf h3 := by rw [eh3]; exact hw.put np_30_5
  change am_R _ _ _ _ _ _ (am_put g1 30 5 r2) _
  rw [← eh3]
  refine am_R.next ((hp 70).trans rfl) rfl ?_
  refine r_getR ((hp 71).trans rfl) (hw.o (i := 30) (by decide) rfl) (hw.r wr_30_8) ?_
  refine am_R.next ((hp 74).trans rfl) rfl ?_
  refine r_cs (as := [.inr (.inr ((37 : Nat) : Int)), .inl 0]) (st' := []) ((hp 75).trans rfl) rfl rfl (Nat.le_of_ble_eq_true rfl) (Nat.le_of_ble_eq_true rfl) (am_R.post H (fun v g4 hq => ?_))
  obtain ⟨rfl, hw, H⟩ := hq
  change am_R _ _ _ _ _ [] _ _
  refine am_R.next ((hp 78).trans rfl) rfl ?_
  refine am_R.next ((hp 79).trans rfl) rfl ?_
  obtain ⟨h5, eh5⟩ : ∃ z : am_H, z = am_put g4 30 7 0 := ⟨_, rfl⟩
  have H := H h5 eh5
  refine r_putI ((hp 80).trans rfl) (hw.o (i := 30) (by decide) rfl) ?_
  have hw : wf h5 := by rw [eh5]; exact hw.put np_30_7
  change am_R _ _ _ _ _ _ (am_put g4 30 7 0) _
  rw [← eh5]
  refine am_R.next ((hp 83).trans rfl) rfl ?_
  refine am_R.next ((hp 84).trans rfl) rfl ?_
  refine r_getI ((hp 85).trans rfl) (hw.o (i := 30) (by decide) rfl) ?_
  refine r_cv (bs := [.inl (h5.2.2.2 30 5)]) (st' := []) ((hp 88).trans rfl) (hw.o (i := 30) (by decide) rfl) rfl rfl (Nat.le_of_ble_eq_true rfl) (Nat.le_of_ble_eq_true rfl) (am_R.post H (fun v g6 hq => ?_))
  obtain ⟨rfl, hw, H⟩ := hq
  change am_R _ _ _ _ _ [] _ _
  refine am_R.next ((hp 91).trans rfl) rfl ?_
  refine am_R.next (lv' := [some (.inr (.inr ((30 : Nat) : Int))), some (.inr (.inr ((p1 : Nat) : Int))), some (.inl x2), some (.inl 0), none]) ((hp 92).trans rfl) rfl ?_
  exact H
theorem w_Graph_prepare_93 {scr : Nat × (Nat → Int)} {d : Nat} {h : am_H} {Q : Option am_V → am_H → Prop} {x2 x3 : Int} {p1 : Nat} (hp1 : p1 ∈ PL) (hs : am_sc scr) (hw : wf h) (H : (¬ (x3 < (h.2.2.2 30 7)) → (Q none h)) ∧ (x3 < (h.2.2.2 30 7) → ((¬ (x3 < 180) → (Q none h)) ∧ (x3 < 180 → ((0 ≤ x3 ∧ x3 < 180) ∧ (∀ y2 : Int, y2 = h.2.2.2 36 x3.toNat → ((0 ≤ y2 ∧ y2 < 180) ∧ ((¬ ((h.2.2.2 34 y2.toNat) = (-1)) → (am_R (am_prog scr) (d + 1) f_Graph_prepare 133 [some (.inr (.inr ((30 : Nat) : Int))), some (.inr (.inr ((p1 : Nat) : Int))), some (.inl x2), some (.inl x3), some (.inl y2)] [] h Q)) ∧ ((h.2.2.2 34 y2.toNat) = (-1) → (am_R (am_prog scr) d f_Graph_workOut 0 [some (.inr (.inr ((30 : Nat) : Int))), some (.inl y2), none] [] h (fun v g4 => v = none ∧ wf g4 ∧ (am_R (am_prog scr) (d + 1) f_Graph_prepare 133 [some (.inr (.inr ((30 : Nat) : Int))), some (.inr (.inr ((p1 : Nat) : Int))), some (.inl x2), some (.inl x3), some (.inl y2)] [] g4 Q)))))))))))) : am_R (am_prog scr) (d + 1) f_Graph_prepare 93 [some (.inr (.inr ((30 : Nat) : Int))), some (.inr (.inr ((p1 : Nat) : Int))), some (.inl x2), some (.inl x3), none] [] h Q := by
  have hp : ∀ k, (am_prog scr).1 f_Graph_prepare k = c_Graph_prepare k := fun _ => rfl
  refine am_R.next ((hp 93).trans rfl) rfl ?_
  refine am_R.next ((hp 94).trans rfl) rfl ?_
  refine r_getI ((hp 95).trans rfl) (hw.o (i := 30) (by decide) rfl) ?_
  refine r_ic ((hp 98).trans rfl) (fun c7 => ?_) (fun c7 => ?_)
  · have H := H.1 c7
    exact am_R.ret ((hp 161).trans rfl) rfl H
  · have H := H.2 (Decidable.not_not.mp c7)
    refine am_R.next ((hp 101).trans rfl) rfl ?_
    refine am_R.next ((hp 102).trans rfl) rfl ?_
    refine r_ic ((hp 105).trans rfl) (fun c6 => ?_) (fun c6 => ?_)
    · have H := H.1 c6
      exact am_R.ret ((hp 161).trans rfl) rfl H
    · have H := H.2 (Decidable.not_not.mp c6)
      refine am_R.next ((hp 108).trans rfl) rfl ?_
      refine r_getR ((hp 109).trans rfl) (hw.o (i := 30) (by decide) rfl) (hw.r wr_30_6) ?_
      refine am_R.next ((hp 112).trans rfl) rfl ?_
      obtain ⟨c1, H⟩ := H
      refine r_iald ((hp 113).trans rfl) (hw.a (i := 36) (by decide) rfl c1.1 c1.2) ?_
      obtain ⟨y2, ey2⟩ : ∃ z : Int, z = h.2.2.2 36 x3.toNat := ⟨_, rfl⟩
      have H := H y2 ey2
      refine am_R.next (lv' := [some (.inr (.inr ((30 : Nat) : Int))), some (.inr (.inr ((p1 : Nat) : Int))), some (.inl x2), some (.inl x3), some (.inl y2)]) (st' := []) (h' := h) (pc' := 116) ((hp 114).trans rfl) (by rw [ey2]; rfl) ?_
      refine am_R.next ((hp 116).trans rfl) rfl ?_
      refine r_getR ((hp 117).trans rfl) (hw.o (i := 30) (by decide) rfl) (hw.r wr_30_2) ?_
      refine am_R.next ((hp 120).trans rfl) rfl ?_
      obtain ⟨c3, H⟩ := H
      refine r_iald ((hp 122).trans rfl) (hw.a (i := 34) (by decide) rfl c3.1 c3.2) ?_
      refine am_R.next ((hp 123).trans rfl) rfl ?_
      refine r_ic ((hp 124).trans rfl) (fun c5 => ?_) (fun c5 => ?_)
      · have H := H.1 c5
        exact H
      · have H := H.2 (Decidable.not_not.mp c5)
        refine am_R.next ((hp 127).trans rfl) rfl ?_
        refine am_R.next ((hp 128).trans rfl) rfl ?_
        refine r_cv (bs := [.inl y2]) (st' := []) ((hp 130).trans rfl) (hw.o (i := 30) (by decide) rfl) rfl rfl (Nat.le_of_ble_eq_true rfl) (Nat.le_of_ble_eq_true rfl) (am_R.post H (fun v g4 hq => ?_))
        obtain ⟨rfl, hw, H⟩ := hq
        change am_R _ _ _ _ _ [] _ _
        exact H
theorem w_Graph_prepare_133 {scr : Nat × (Nat → Int)} {d : Nat} {h : am_H} {Q : Option am_V → am_H → Prop} {x2 x3 x4 : Int} {p1 : Nat} (hp1 : p1 ∈ PL) (hs : am_sc scr) (hw : wf h) (H : (0 ≤ x4 ∧ x4 < 180) ∧ (am_R (am_prog scr) d f_Graph_reach 0 [some (.inr (.inr ((30 : Nat) : Int))), some (.inl (h.2.2.2 34 x4.toNat))] [] h (fun v g2 => v = none ∧ wf g2 ∧ ((0 ≤ x4 ∧ x4 < 180) ∧ (am_R (am_prog scr) d f_Graph_reach 0 [some (.inr (.inr ((30 : Nat) : Int))), some (.inl (g2.2.2.2 35 x4.toNat))] [] g2 (fun v g4 => v = none ∧ wf g4 ∧ (∀ y5 : Int, y5 = am_w (x3 + 1) → (am_R (am_prog scr) (d + 1) f_Graph_prepare 93 [some (.inr (.inr ((30 : Nat) : Int))), some (.inr (.inr ((p1 : Nat) : Int))), some (.inl x2), some (.inl y5), none] [] g4 Q)))))))) : am_R (am_prog scr) (d + 1) f_Graph_prepare 133 [some (.inr (.inr ((30 : Nat) : Int))), some (.inr (.inr ((p1 : Nat) : Int))), some (.inl x2), some (.inl x3), some (.inl x4)] [] h Q := by
  have hp : ∀ k, (am_prog scr).1 f_Graph_prepare k = c_Graph_prepare k := fun _ => rfl
  refine am_R.next ((hp 133).trans rfl) rfl ?_
  refine am_R.next ((hp 134).trans rfl) rfl ?_
  refine r_getR ((hp 135).trans rfl) (hw.o (i := 30) (by decide) rfl) (hw.r wr_30_2) ?_
  refine am_R.next ((hp 138).trans rfl) rfl ?_
  obtain ⟨c1, H⟩ := H
  refine r_iald ((hp 140).trans rfl) (hw.a (i := 34) (by decide) rfl c1.1 c1.2) ?_
  refine r_cv (bs := [.inl (h.2.2.2 34 x4.toNat)]) (st' := []) ((hp 141).trans rfl) (hw.o (i := 30) (by decide) rfl) rfl rfl (Nat.le_of_ble_eq_true rfl) (Nat.le_of_ble_eq_true rfl) (am_R.post H (fun v g2 hq => ?_))
  obtain ⟨rfl, hw, H⟩ := hq
  change am_R _ _ _ _ _ [] _ _
  refine am_R.next ((hp 144).trans rfl) rfl ?_
  refine am_R.next ((hp 145).trans rfl) rfl ?_
  refine r_getR ((hp 146).trans rfl) (hw.o (i := 30) (by decide) rfl) (hw.r wr_30_3) ?_
  refine am_R.next ((hp 149).trans rfl) rfl ?_
  obtain ⟨c3, H⟩ := H
  refine r_iald ((hp 151).trans rfl) (hw.a (i := 35) (by decide) rfl c3.1 c3.2) ?_
  refine r_cv (bs := [.inl (g2.2.2.2 35 x4.toNat)]) (st' := []) ((hp 152).trans rfl) (hw.o (i := 30) (by decide) rfl) rfl rfl (Nat.le_of_ble_eq_true rfl) (Nat.le_of_ble_eq_true rfl) (am_R.post H (fun v g4 hq => ?_))
  obtain ⟨rfl, hw, H⟩ := hq
  change am_R _ _ _ _ _ [] _ _
  obtain ⟨y5, ey5⟩ : ∃ z : Int, z = am_w (x3 + 1) := ⟨_, rfl⟩
  have H := H y5 ey5
  refine am_R.next (lv' := [some (.inr (.inr ((30 : Nat) : Int))), some (.inr (.inr ((p1 : Nat) : Int))), some (.inl x2), some (.inl y5), some (.inl x4)]) (st' := []) (h' := g4) (pc' := 158) ((hp 155).trans rfl) (by rw [ey5]; rfl) ?_
  refine am_R.next ((hp 158).trans rfl) rfl ?_
  exact r_le hs in_185 (le_k (le_k (le_k (le_k (le_d le_n))))) H
theorem w_Graph_reach_0 {scr : Nat × (Nat → Int)} {d : Nat} {h : am_H} {Q : Option am_V → am_H → Prop} {x1 : Int} (hs : am_sc scr) (hw : wf h) (H : am_R (am_prog scr) d f_Graph_goesOn 0 [some (.inr (.inr ((30 : Nat) : Int))), some (.inl x1)] [] h (fun v g1 => ∃ r2 : Int, v = some (.inl r2) ∧ wf g1 ∧ ((r2 = 0 → (Q none g1)) ∧ (¬ (r2 = 0) → ((0 ≤ x1 ∧ x1 < 180) ∧ ((¬ ((g1.2.2.2 37 x1.toNat) = 0) → (Q none g1)) ∧ ((g1.2.2.2 37 x1.toNat) = 0 → (((0 ≤ x1 ∧ x1 < 180)) ∧ (∀ h5 : am_H, h5 = am_put g1 37 x1.toNat 1 → (((0 ≤ (h5.2.2.2 30 7) ∧ (h5.2.2.2 30 7) < 180)) ∧ (∀ h7 : am_H, h7 = am_put h5 36 ((h5.2.2.2 30 7).toNat) x1 → (∀ h8 : am_H, h8 = am_put h7 30 7 (am_w ((h7.2.2.2 30 7) + 1)) → (Q none h8))))))))))))) : am_R (am_prog scr) (d + 1) f_Graph_reach 0 [some (.inr (.inr ((30 : Nat) : Int))), some (.inl x1)] [] h Q := by
  have hp : ∀ k, (am_prog scr).1 f_Graph_reach k = c_Graph_reach k := fun _ => rfl
  refine am_R.next ((hp 0).trans rfl) rfl ?_
  refine am_R.next ((hp 1).trans rfl) rfl ?_
  refine r_cv (bs := [.inl x1]) (st' := []) ((hp 2).trans rfl) (hw.o (i := 30) (by decide) rfl) rfl rfl (Nat.le_of_ble_eq_true rfl) (Nat.le_of_ble_eq_true rfl) (am_R.post H (fun v g1 hq => ?_))
  obtain ⟨r2, rfl, hw, H⟩ := hq
  change am_R _ _ _ _ _ [.inl r2] _ _
  refine r_if ((hp 5).trans rfl) (fun c10 => ?_) (fun c10 => ?_)
  · have H := H.1 c10
    exact am_R.ret ((hp 44).trans rfl) rfl H
  · have H := H.2 c10
    refine am_R.next ((hp 8).trans rfl) rfl ?_
    refine r_getR ((hp 9).trans rfl) (hw.o (i := 30) (by decide) rfl) (hw.r wr_30_8) ?_
    refine am_R.next ((hp 12).trans rfl) rfl ?_
    obtain ⟨c3, H⟩ := H
    refine r_iald ((hp 13).trans rfl) (hw.a (i := 37) (by decide) rfl c3.1 c3.2) ?_
    refine r_if ((hp 14).trans rfl) (fun c9 => ?_) (fun c9 => ?_)
    · have H := H.1 c9
      exact am_R.ret ((hp 44).trans rfl) rfl H
    · have H := H.2 (Decidable.not_not.mp c9)
      refine am_R.next ((hp 17).trans rfl) rfl ?_
      refine r_getR ((hp 18).trans rfl) (hw.o (i := 30) (by decide) rfl) (hw.r wr_30_8) ?_
      refine am_R.next ((hp 21).trans rfl) rfl ?_
      refine am_R.next ((hp 22).trans rfl) rfl ?_
      obtain ⟨c4, H⟩ := H
      obtain ⟨h5, eh5⟩ : ∃ z : am_H, z = am_put g1 37 x1.toNat 1 := ⟨_, rfl⟩
      have H := H h5 eh5
      refine r_iast ((hp 23).trans rfl) (hw.a (i := 37) (by decide) rfl c4.1 c4.2) ?_
      have hw : wf h5 := by rw [eh5]; exact hw.pa na_37
      change am_R _ _ _ _ _ _ (am_put g1 37 x1.toNat 1) _
      rw [← eh5]
      refine am_R.next ((hp 24).trans rfl) rfl ?_
      refine r_getR ((hp 25).trans rfl) (hw.o (i := 30) (by decide) rfl) (hw.r wr_30_6) ?_
      refine am_R.next ((hp 28).trans rfl) rfl ?_
      refine r_getI ((hp 29).trans rfl) (hw.o (i := 30) (by decide) rfl) ?_
      refine am_R.next ((hp 32).trans rfl) rfl ?_
      obtain ⟨c6, H⟩ := H
      obtain ⟨h7, eh7⟩ : ∃ z : am_H, z = am_put h5 36 ((h5.2.2.2 30 7).toNat) x1 := ⟨_, rfl⟩
      have H := H h7 eh7
      refine r_iast ((hp 33).trans rfl) (hw.a (i := 36) (by decide) rfl c6.1 c6.2) ?_
      have hw : wf h7 := by rw [eh7]; exact hw.pa na_36
      change am_R _ _ _ _ _ _ (am_put h5 36 ((h5.2.2.2 30 7).toNat) x1) _
      rw [← eh7]
      refine am_R.next ((hp 34).trans rfl) rfl ?_
      refine am_R.next ((hp 35).trans rfl) rfl ?_
      refine r_getI ((hp 36).trans rfl) (hw.o (i := 30) (by decide) rfl) ?_
      refine am_R.next ((hp 39).trans rfl) rfl ?_
      refine am_R.next ((hp 40).trans rfl) rfl ?_
      obtain ⟨h8, eh8⟩ : ∃ z : am_H, z = am_put h7 30 7 (am_w ((h7.2.2.2 30 7) + 1)) := ⟨_, rfl⟩
      have H := H h8 eh8
      refine r_putI ((hp 41).trans rfl) (hw.o (i := 30) (by decide) rfl) ?_
      have hw : wf h8 := by rw [eh8]; exact hw.put np_30_7
      change am_R _ _ _ _ _ _ (am_put h7 30 7 (am_w ((h7.2.2.2 30 7) + 1))) _
      rw [← eh8]
      exact am_R.ret ((hp 44).trans rfl) rfl H
theorem w_Graph_workOut_0 {scr : Nat × (Nat → Int)} {d : Nat} {h : am_H} {Q : Option am_V → am_H → Prop} {x1 : Int} (hs : am_sc scr) (hw : wf h) (H : am_R (am_prog scr) d f_Play_standAt 0 [some (.inr (.inr ((31 : Nat) : Int))), some (.inl x1)] [] h (fun v g1 => v = none ∧ wf g1 ∧ (am_R (am_prog scr) d f_Stage_step 0 [some (.inr (.inr ((9 : Nat) : Int))), some (.inr (.inr ((31 : Nat) : Int))), some (.inl (-1)), none, none, none, none] [] g1 (fun v g2 => ∃ r3 : Int, v = some (.inl r3) ∧ wf g2 ∧ (am_R (am_prog scr) d f_Play_node 0 [some (.inr (.inr ((31 : Nat) : Int)))] [] g2 (fun v g4 => ∃ r5 : Int, v = some (.inl r5) ∧ wf g4 ∧ (((0 ≤ x1 ∧ x1 < 180)) ∧ (∀ h7 : am_H, h7 = am_put g4 34 x1.toNat r5 → ((0 ≤ x1 ∧ x1 < 180) ∧ (((0 ≤ x1 ∧ x1 < 180)) ∧ (∀ h10 : am_H, h10 = am_put h7 35 x1.toNat (h7.2.2.2 34 x1.toNat) → ((r3 = (-1) → (Q none h10)) ∧ (¬ (r3 = (-1)) → (am_R (am_prog scr) d f_Play_standAt 0 [some (.inr (.inr ((31 : Nat) : Int))), some (.inl x1)] [] h10 (fun v g11 => v = none ∧ wf g11 ∧ (am_R (am_prog scr) d f_Stage_step 0 [some (.inr (.inr ((9 : Nat) : Int))), some (.inr (.inr ((31 : Nat) : Int))), some (.inl r3), none, none, none, none] [] g11 (fun v g12 => ∃ r13 : Int, v = some (.inl r13) ∧ wf g12 ∧ (am_R (am_prog scr) d f_Play_node 0 [some (.inr (.inr ((31 : Nat) : Int)))] [] g12 (fun v g14 => ∃ r15 : Int, v = some (.inl r15) ∧ wf g14 ∧ (((0 ≤ x1 ∧ x1 < 180)) ∧ (∀ h17 : am_H, h17 = am_put g14 35 x1.toNat r15 → (Q none h17)))))))))))))))))))))) : am_R (am_prog scr) (d + 1) f_Graph_workOut 0 [some (.inr (.inr ((30 : Nat) : Int))), some (.inl x1), none] [] h Q := by
  have hp : ∀ k, (am_prog scr).1 f_Graph_workOut k = c_Graph_workOut k := fun _ => rfl
  refine am_R.next ((hp 0).trans rfl) rfl ?_
  refine r_getR ((hp 1).trans rfl) (hw.o (i := 30) (by decide) rfl) (hw.r wr_30_1) ?_
  refine am_R.next ((hp 4).trans rfl) rfl ?_
  refine r_cv (bs := [.inl x1]) (st' := []) ((hp 5).trans rfl) (hw.o (i := 31) (by decide) rfl) rfl rfl (Nat.le_of_ble_eq_true rfl) (Nat.le_of_ble_eq_true rfl) (am_R.post H (fun v g1 hq => ?_))
  obtain ⟨rfl, hw, H⟩ := hq
  change am_R _ _ _ _ _ [] _ _
  refine am_R.next ((hp 8).trans rfl) rfl ?_
  refine r_getR ((hp 9).trans rfl) (hw.o (i := 30) (by decide) rfl) (hw.r wr_30_0) ?_
  refine am_R.next ((hp 12).trans rfl) rfl ?_
  refine r_getR ((hp 13).trans rfl) (hw.o (i := 30) (by decide) rfl) (hw.r wr_30_1) ?_
  refine am_R.next ((hp 16).trans rfl) rfl ?_
  refine r_cv (bs := [.inr (.inr ((31 : Nat) : Int)), .inl (-1)]) (st' := []) ((hp 17).trans rfl) (hw.o (i := 9) (by decide) rfl) rfl rfl (Nat.le_of_ble_eq_true rfl) (Nat.le_of_ble_eq_true rfl) (am_R.post H (fun v g2 hq => ?_))
  obtain ⟨r3, rfl, hw, H⟩ := hq
  change am_R _ _ _ _ _ [.inl r3] _ _
  refine am_R.next (lv' := [some (.inr (.inr ((30 : Nat) : Int))), some (.inl x1), some (.inl r3)]) ((hp 20).trans rfl) rfl ?_
  refine am_R.next ((hp 21).trans rfl) rfl ?_
  refine r_getR ((hp 22).trans rfl) (hw.o (i := 30) (by decide) rfl) (hw.r wr_30_2) ?_
  refine am_R.next ((hp 25).trans rfl) rfl ?_
  refine am_R.next ((hp 26).trans rfl) rfl ?_
  refine r_getR ((hp 27).trans rfl) (hw.o (i := 30) (by decide) rfl) (hw.r wr_30_1) ?_
  refine r_cv (bs := []) (st' := [.inl x1, .inr (.inr ((34 : Nat) : Int))]) ((hp 30).trans rfl) (hw.o (i := 31) (by decide) rfl) rfl rfl (Nat.le_of_ble_eq_true rfl) (Nat.le_of_ble_eq_true rfl) (am_R.post H (fun v g4 hq => ?_))
  obtain ⟨r5, rfl, hw, H⟩ := hq
  change am_R _ _ _ _ _ [.inl r5, .inl x1, .inr (.inr ((34 : Nat) : Int))] _ _
  obtain ⟨c6, H⟩ := H
  obtain ⟨h7, eh7⟩ : ∃ z : am_H, z = am_put g4 34 x1.toNat r5 := ⟨_, rfl⟩
  have H := H h7 eh7
  refine r_iast ((hp 33).trans rfl) (hw.a (i := 34) (by decide) rfl c6.1 c6.2) ?_
  have hw : wf h7 := by rw [eh7]; exact hw.pa na_34
  change am_R _ _ _ _ _ _ (am_put g4 34 x1.toNat r5) _
  rw [← eh7]
  refine am_R.next ((hp 34).trans rfl) rfl ?_
  refine r_getR ((hp 35).trans rfl) (hw.o (i := 30) (by decide) rfl) (hw.r wr_30_3) ?_
  refine am_R.next ((hp 38).trans rfl) rfl ?_
  refine am_R.next ((hp 39).trans rfl) rfl ?_
  refine r_getR ((hp 40).trans rfl) (hw.o (i := 30) (by decide) rfl) (hw.r wr_30_2) ?_
  refine am_R.next ((hp 43).trans rfl) rfl ?_
  obtain ⟨c8, H⟩ := H
  refine r_iald ((hp 44).trans rfl) (hw.a (i := 34) (by decide) rfl c8.1 c8.2) ?_
  obtain ⟨c9, H⟩ := H
  obtain ⟨h10, eh10⟩ : ∃ z : am_H, z = am_put h7 35 x1.toNat (h7.2.2.2 34 x1.toNat) := ⟨_, rfl⟩
  have H := H h10 eh10
  refine r_iast ((hp 45).trans rfl) (hw.a (i := 35) (by decide) rfl c9.1 c9.2) ?_
  have hw : wf h10 := by rw [eh10]; exact hw.pa na_35
  change am_R _ _ _ _ _ _ (am_put h7 35 x1.toNat (h7.2.2.2 34 x1.toNat)) _
  rw [← eh10]
  refine am_R.next ((hp 46).trans rfl) rfl ?_
  refine am_R.next ((hp 47).trans rfl) rfl ?_
  refine r_ic ((hp 48).trans rfl) (fun c18 => ?_) (fun c18 => ?_)
  · have H := H.1 c18
    exact am_R.ret ((hp 85).trans rfl) rfl H
  · have H := H.2 c18
    refine am_R.next ((hp 51).trans rfl) rfl ?_
    refine r_getR ((hp 52).trans rfl) (hw.o (i := 30) (by decide) rfl) (hw.r wr_30_1) ?_
    refine am_R.next ((hp 55).trans rfl) rfl ?_
    refine r_cv (bs := [.inl x1]) (st' := []) ((hp 56).trans rfl) (hw.o (i := 31) (by decide) rfl) rfl rfl (Nat.le_of_ble_eq_true rfl) (Nat.le_of_ble_eq_true rfl) (am_R.post H (fun v g11 hq => ?_))
    obtain ⟨rfl, hw, H⟩ := hq
    change am_R _ _ _ _ _ [] _ _
    refine am_R.next ((hp 59).trans rfl) rfl ?_
    refine r_getR ((hp 60).trans rfl) (hw.o (i := 30) (by decide) rfl) (hw.r wr_30_0) ?_
    refine am_R.next ((hp 63).trans rfl) rfl ?_
    refine r_getR ((hp 64).trans rfl) (hw.o (i := 30) (by decide) rfl) (hw.r wr_30_1) ?_
    refine am_R.next ((hp 67).trans rfl) rfl ?_
    refine r_cv (bs := [.inr (.inr ((31 : Nat) : Int)), .inl r3]) (st' := []) ((hp 68).trans rfl) (hw.o (i := 9) (by decide) rfl) rfl rfl (Nat.le_of_ble_eq_true rfl) (Nat.le_of_ble_eq_true rfl) (am_R.post H (fun v g12 hq => ?_))
    obtain ⟨r13, rfl, hw, H⟩ := hq
    change am_R _ _ _ _ _ [.inl r13] _ _
    refine am_R.next ((hp 71).trans rfl) rfl ?_
    refine am_R.next ((hp 72).trans rfl) rfl ?_
    refine r_getR ((hp 73).trans rfl) (hw.o (i := 30) (by decide) rfl) (hw.r wr_30_3) ?_
    refine am_R.next ((hp 76).trans rfl) rfl ?_
    refine am_R.next ((hp 77).trans rfl) rfl ?_
    refine r_getR ((hp 78).trans rfl) (hw.o (i := 30) (by decide) rfl) (hw.r wr_30_1) ?_
    refine r_cv (bs := []) (st' := [.inl x1, .inr (.inr ((35 : Nat) : Int))]) ((hp 81).trans rfl) (hw.o (i := 31) (by decide) rfl) rfl rfl (Nat.le_of_ble_eq_true rfl) (Nat.le_of_ble_eq_true rfl) (am_R.post H (fun v g14 hq => ?_))
    obtain ⟨r15, rfl, hw, H⟩ := hq
    change am_R _ _ _ _ _ [.inl r15, .inl x1, .inr (.inr ((35 : Nat) : Int))] _ _
    obtain ⟨c16, H⟩ := H
    obtain ⟨h17, eh17⟩ : ∃ z : am_H, z = am_put g14 35 x1.toNat r15 := ⟨_, rfl⟩
    have H := H h17 eh17
    refine r_iast ((hp 84).trans rfl) (hw.a (i := 35) (by decide) rfl c16.1 c16.2) ?_
    have hw : wf h17 := by rw [eh17]; exact hw.pa na_35
    change am_R _ _ _ _ _ _ (am_put g14 35 x1.toNat r15) _
    rw [← eh17]
    exact am_R.ret ((hp 85).trans rfl) rfl H
theorem w_Graph_sleepers_0 {scr : Nat × (Nat → Int)} {d : Nat} {h : am_H} {Q : Option am_V → am_H → Prop} (hs : am_sc scr) (hw : wf h) (H : am_isO h (h.2.2.2 31 0) 1 ∧ (Q (some (.inl (h.2.2.2 ((h.2.2.2 31 0).toNat) 4))) h)) : am_R (am_prog scr) d f_Graph_sleepers 0 [some (.inr (.inr ((30 : Nat) : Int)))] [] h Q := by
  have hp : ∀ k, (am_prog scr).1 f_Graph_sleepers k = c_Graph_sleepers k := fun _ => rfl
  refine am_R.next ((hp 0).trans rfl) rfl ?_
  refine r_getR ((hp 1).trans rfl) (hw.o (i := 30) (by decide) rfl) (hw.r wr_30_1) ?_
  refine r_getR ((hp 4).trans rfl) (hw.o (i := 31) (by decide) rfl) rfl ?_
  obtain ⟨c1, H⟩ := H
  refine r_getI ((hp 7).trans rfl) c1 ?_
  exact am_R.ret ((hp 10).trans rfl) rfl H
theorem w_Graph_isStill_0 {scr : Nat × (Nat → Int)} {d : Nat} {h : am_H} {Q : Option am_V → am_H → Prop} {x1 : Int} (hs : am_sc scr) (hw : wf h) (H : (x1 < 180 → (Q (some (.inl 0)) h)) ∧ (¬ (x1 < 180) → (Q (some (.inl 1)) h))) : am_R (am_prog scr) d f_Graph_isStill 0 [some (.inr (.inr ((30 : Nat) : Int))), some (.inl x1)] [] h Q := by
  have hp : ∀ k, (am_prog scr).1 f_Graph_isStill k = c_Graph_isStill k := fun _ => rfl
  refine am_R.next ((hp 0).trans rfl) rfl ?_
  refine am_R.next ((hp 1).trans rfl) rfl ?_
  refine r_ic ((hp 4).trans rfl) (fun c1 => ?_) (fun c1 => ?_)
  · have H := H.1 c1
    refine am_R.next ((hp 11).trans rfl) rfl ?_
    exact r_zret ((hp 12).trans rfl) (Or.inl rfl) H
  · have H := H.2 c1
    refine am_R.next ((hp 7).trans rfl) rfl ?_
    refine am_R.next ((hp 8).trans rfl) rfl ?_
    exact r_zret ((hp 12).trans rfl) (Or.inr rfl) H
theorem w_Graph_isEnd_0 {scr : Nat × (Nat → Int)} {d : Nat} {h : am_H} {Q : Option am_V → am_H → Prop} {x1 : Int} (hs : am_sc scr) (hw : wf h) (H : (¬ (x1 < 180) → (Q (some (.inl 0)) h)) ∧ (x1 < 180 → (am_isO h (h.2.2.2 31 0) 1 ∧ (((am_w (x1.tdiv 36)) < (h.2.2.2 ((h.2.2.2 31 0).toNat) 3) → (Q (some (.inl 0)) h)) ∧ (¬ ((am_w (x1.tdiv 36)) < (h.2.2.2 ((h.2.2.2 31 0).toNat) 3)) → (Q (some (.inl 1)) h)))))) : am_R (am_prog scr) d f_Graph_isEnd 0 [some (.inr (.inr ((30 : Nat) : Int))), some (.inl x1)] [] h Q := by
  have hp : ∀ k, (am_prog scr).1 f_Graph_isEnd k = c_Graph_isEnd k := fun _ => rfl
  refine am_R.next ((hp 0).trans rfl) rfl ?_
  refine am_R.next ((hp 1).trans rfl) rfl ?_
  refine r_ic ((hp 4).trans rfl) (fun c3 => ?_) (fun c3 => ?_)
  · have H := H.1 c3
    refine am_R.next ((hp 28).trans rfl) rfl ?_
    exact r_zret ((hp 29).trans rfl) (Or.inl rfl) H
  · have H := H.2 (Decidable.not_not.mp c3)
    refine am_R.next ((hp 7).trans rfl) rfl ?_
    refine am_R.next ((hp 8).trans rfl) rfl ?_
    refine r_i2z ((hp 10).trans rfl) (by decide) ?_
    refine am_R.next ((hp 11).trans rfl) rfl ?_
    refine r_getR ((hp 12).trans rfl) (hw.o (i := 30) (by decide) rfl) (hw.r wr_30_1) ?_
    refine r_getR ((hp 15).trans rfl) (hw.o (i := 31) (by decide) rfl) rfl ?_
    obtain ⟨c1, H⟩ := H
    refine r_getI ((hp 18).trans rfl) c1 ?_
    refine r_ic ((hp 21).trans rfl) (fun c2 => ?_) (fun c2 => ?_)
    · have H := H.1 c2
      refine am_R.next ((hp 28).trans rfl) rfl ?_
      exact r_zret ((hp 29).trans rfl) (Or.inl rfl) H
    · have H := H.2 c2
      refine am_R.next ((hp 24).trans rfl) rfl ?_
      refine am_R.next ((hp 25).trans rfl) rfl ?_
      exact r_zret ((hp 29).trans rfl) (Or.inr rfl) H
theorem w_Graph_goesOn_0 {scr : Nat × (Nat → Int)} {d : Nat} {h : am_H} {Q : Option am_V → am_H → Prop} {x1 : Int} (hs : am_sc scr) (hw : wf h) (H : am_R (am_prog scr) d f_Graph_isStill 0 [some (.inr (.inr ((30 : Nat) : Int))), some (.inl x1)] [] h (fun v g1 => ∃ r2 : Int, v = some (.inl r2) ∧ wf g1 ∧ ((¬ (r2 = 0) → (Q (some (.inl 0)) g1)) ∧ (r2 = 0 → (am_R (am_prog scr) d f_Graph_isEnd 0 [some (.inr (.inr ((30 : Nat) : Int))), some (.inl x1)] [] g1 (fun v g3 => ∃ r4 : Int, v = some (.inl r4) ∧ wf g3 ∧ ((¬ (r4 = 0) → (Q (some (.inl 0)) g3)) ∧ (r4 = 0 → (Q (some (.inl 1)) g3))))))))) : am_R (am_prog scr) (d + 1) f_Graph_goesOn 0 [some (.inr (.inr ((30 : Nat) : Int))), some (.inl x1)] [] h Q := by
  have hp : ∀ k, (am_prog scr).1 f_Graph_goesOn k = c_Graph_goesOn k := fun _ => rfl
  refine am_R.next ((hp 0).trans rfl) rfl ?_
  refine am_R.next ((hp 1).trans rfl) rfl ?_
  refine r_cv (bs := [.inl x1]) (st' := []) ((hp 2).trans rfl) (hw.o (i := 30) (by decide) rfl) rfl rfl (Nat.le_of_ble_eq_true rfl) (Nat.le_of_ble_eq_true rfl) (am_R.post H (fun v g1 hq => ?_))
  obtain ⟨r2, rfl, hw, H⟩ := hq
  change am_R _ _ _ _ _ [.inl r2] _ _
  refine r_if ((hp 5).trans rfl) (fun c6 => ?_) (fun c6 => ?_)
  · have H := H.1 c6
    refine am_R.next ((hp 20).trans rfl) rfl ?_
    exact r_zret ((hp 21).trans rfl) (Or.inl rfl) H
  · have H := H.2 (Decidable.not_not.mp c6)
    refine am_R.next ((hp 8).trans rfl) rfl ?_
    refine am_R.next ((hp 9).trans rfl) rfl ?_
    refine r_cv (bs := [.inl x1]) (st' := []) ((hp 10).trans rfl) (hw.o (i := 30) (by decide) rfl) rfl rfl (Nat.le_of_ble_eq_true rfl) (Nat.le_of_ble_eq_true rfl) (am_R.post H (fun v g3 hq => ?_))
    obtain ⟨r4, rfl, hw, H⟩ := hq
    change am_R _ _ _ _ _ [.inl r4] _ _
    refine r_if ((hp 13).trans rfl) (fun c5 => ?_) (fun c5 => ?_)
    · have H := H.1 c5
      refine am_R.next ((hp 20).trans rfl) rfl ?_
      exact r_zret ((hp 21).trans rfl) (Or.inl rfl) H
    · have H := H.2 (Decidable.not_not.mp c5)
      refine am_R.next ((hp 16).trans rfl) rfl ?_
      refine am_R.next ((hp 17).trans rfl) rfl ?_
      exact r_zret ((hp 21).trans rfl) (Or.inr rfl) H
theorem w_Graph_actOf_0 {scr : Nat × (Nat → Int)} {d : Nat} {h : am_H} {Q : Option am_V → am_H → Prop} {x1 : Int} (hs : am_sc scr) (hw : wf h) (H : am_R (am_prog scr) d f_Graph_isStill 0 [some (.inr (.inr ((30 : Nat) : Int))), some (.inl x1)] [] h (fun v g1 => ∃ r2 : Int, v = some (.inl r2) ∧ wf g1 ∧ ((r2 = 0 → (Q (some (.inl (am_w (x1.tdiv 36)))) g1)) ∧ (¬ (r2 = 0) → (Q (some (.inl (am_w (x1 - 180)))) g1))))) : am_R (am_prog scr) (d + 1) f_Graph_actOf 0 [some (.inr (.inr ((30 : Nat) : Int))), some (.inl x1)] [] h Q := by
  have hp : ∀ k, (am_prog scr).1 f_Graph_actOf k = c_Graph_actOf k := fun _ => rfl
  refine am_R.next ((hp 0).trans rfl) rfl ?_
  refine am_R.next ((hp 1).trans rfl) rfl ?_
  refine r_cv (bs := [.inl x1]) (st' := []) ((hp 2).trans rfl) (hw.o (i := 30) (by decide) rfl) rfl rfl (Nat.le_of_ble_eq_true rfl) (Nat.le_of_ble_eq_true rfl) (am_R.post H (fun v g1 hq => ?_))
  obtain ⟨r2, rfl, hw, H⟩ := hq
  change am_R _ _ _ _ _ [.inl r2] _ _
  refine r_if ((hp 5).trans rfl) (fun c3 => ?_) (fun c3 => ?_)
  · have H := H.1 c3
    refine am_R.next ((hp 16).trans rfl) rfl ?_
    refine am_R.next ((hp 17).trans rfl) rfl ?_
    refine r_i2z ((hp 19).trans rfl) (by decide) ?_
    exact am_R.ret ((hp 20).trans rfl) rfl H
  · have H := H.2 c3
    refine am_R.next ((hp 8).trans rfl) rfl ?_
    refine am_R.next ((hp 9).trans rfl) rfl ?_
    refine am_R.next ((hp 12).trans rfl) rfl ?_
    refine am_R.next ((hp 13).trans rfl) rfl ?_
    exact am_R.ret ((hp 20).trans rfl) rfl H
theorem w_Graph_soundOf_0 {scr : Nat × (Nat → Int)} {d : Nat} {h : am_H} {Q : Option am_V → am_H → Prop} {x1 : Int} (hs : am_sc scr) (hw : wf h) (H : Q (some (.inl ((am_w (x1.tdiv 6)).tmod 6))) h) : am_R (am_prog scr) d f_Graph_soundOf 0 [some (.inr (.inr ((30 : Nat) : Int))), some (.inl x1)] [] h Q := by
  have hp : ∀ k, (am_prog scr).1 f_Graph_soundOf k = c_Graph_soundOf k := fun _ => rfl
  refine am_R.next ((hp 0).trans rfl) rfl ?_
  refine am_R.next ((hp 1).trans rfl) rfl ?_
  refine r_i2z ((hp 3).trans rfl) (by decide) ?_
  refine am_R.next ((hp 4).trans rfl) rfl ?_
  refine r_i2z ((hp 6).trans rfl) (by decide) ?_
  exact am_R.ret ((hp 7).trans rfl) rfl H
theorem w_Graph_lastOf_0 {scr : Nat × (Nat → Int)} {d : Nat} {h : am_H} {Q : Option am_V → am_H → Prop} {x1 : Int} (hs : am_sc scr) (hw : wf h) (H : Q (some (.inl (x1.tmod 6))) h) : am_R (am_prog scr) d f_Graph_lastOf 0 [some (.inr (.inr ((30 : Nat) : Int))), some (.inl x1)] [] h Q := by
  have hp : ∀ k, (am_prog scr).1 f_Graph_lastOf k = c_Graph_lastOf k := fun _ => rfl
  refine am_R.next ((hp 0).trans rfl) rfl ?_
  refine am_R.next ((hp 1).trans rfl) rfl ?_
  refine r_i2z ((hp 3).trans rfl) (by decide) ?_
  exact am_R.ret ((hp 4).trans rfl) rfl H
theorem w_Graph_after_0 {scr : Nat × (Nat → Int)} {d : Nat} {h : am_H} {Q : Option am_V → am_H → Prop} {x1 x2 : Int} (hs : am_sc scr) (hw : wf h) (H : (x1 < 0 → (Q (some (.inl 180)) h)) ∧ (¬ (x1 < 0) → ((¬ (x1 < 180) → (Q (some (.inl 180)) h)) ∧ (x1 < 180 → ((0 ≤ x1 ∧ x1 < 180) ∧ ((¬ ((h.2.2.2 34 x1.toNat) = (-1)) → ((0 ≤ x1 ∧ x1 < 180) ∧ (∀ y3 : Int, y3 = h.2.2.2 34 x1.toNat → (am_R (am_prog scr) d f_Graph_isStill 0 [some (.inr (.inr ((30 : Nat) : Int))), some (.inl y3)] [] h (fun v g4 => ∃ r5 : Int, v = some (.inl r5) ∧ wf g4 ∧ ((¬ (r5 = 0) → (Q (some (.inl y3)) g4)) ∧ (r5 = 0 → (am_R (am_prog scr) d f_Graph_lastOf 0 [some (.inr (.inr ((30 : Nat) : Int))), some (.inl y3)] [] g4 (fun v g6 => ∃ r7 : Int, v = some (.inl r7) ∧ wf g6 ∧ ((¬ (r7 = (am_w (x2 - 1))) → (Q (some (.inl y3)) g6)) ∧ (r7 = (am_w (x2 - 1)) → ((0 ≤ x1 ∧ x1 < 180) ∧ (Q (some (.inl (g6.2.2.2 35 x1.toNat))) g6))))))))))))) ∧ ((h.2.2.2 34 x1.toNat) = (-1) → (Q (some (.inl 180)) h)))))))) : am_R (am_prog scr) (d + 1) f_Graph_after 0 [some (.inr (.inr ((30 : Nat) : Int))), some (.inl x1), some (.inl x2), none] [] h Q := by
  have hp : ∀ k, (am_prog scr).1 f_Graph_after k = c_Graph_after k := fun _ => rfl
  refine am_R.next ((hp 0).trans rfl) rfl ?_
  refine r_if ((hp 1).trans rfl) (fun c13 => ?_) (fun c13 => ?_)
  · have H := H.1 c13
    refine am_R.next ((hp 21).trans rfl) rfl ?_
    exact am_R.ret ((hp 24).trans rfl) rfl H
  · have H := H.2 c13
    refine am_R.next ((hp 4).trans rfl) rfl ?_
    refine am_R.next ((hp 5).trans rfl) rfl ?_
    refine r_ic ((hp 8).trans rfl) (fun c12 => ?_) (fun c12 => ?_)
    · have H := H.1 c12
      refine am_R.next ((hp 21).trans rfl) rfl ?_
      exact am_R.ret ((hp 24).trans rfl) rfl H
    · have H := H.2 (Decidable.not_not.mp c12)
      refine am_R.next ((hp 11).trans rfl) rfl ?_
      refine r_getR ((hp 12).trans rfl) (hw.o (i := 30) (by decide) rfl) (hw.r wr_30_2) ?_
      refine am_R.next ((hp 15).trans rfl) rfl ?_
      obtain ⟨c1, H⟩ := H
      refine r_iald ((hp 16).trans rfl) (hw.a (i := 34) (by decide) rfl c1.1 c1.2) ?_
      refine am_R.next ((hp 17).trans rfl) rfl ?_
      refine r_ic ((hp 18).trans rfl) (fun c11 => ?_) (fun c11 => ?_)
      · have H := H.1 c11
        refine am_R.next ((hp 25).trans rfl) rfl ?_
        refine r_getR ((hp 26).trans rfl) (hw.o (i := 30) (by decide) rfl) (hw.r wr_30_2) ?_
        refine am_R.next ((hp 29).trans rfl) rfl ?_
        obtain ⟨c2, H⟩ := H
        refine r_iald ((hp 30).trans rfl) (hw.a (i := 34) (by decide) rfl c2.1 c2.2) ?_
        obtain ⟨y3, ey3⟩ : ∃ z : Int, z = h.2.2.2 34 x1.toNat := ⟨_, rfl⟩
        have H := H y3 ey3
        refine am_R.next (lv' := [some (.inr (.inr ((30 : Nat) : Int))), some (.inl x1), some (.inl x2), some (.inl y3)]) (st' := []) (h' := h) (pc' := 32) ((hp 31).trans rfl) (by rw [ey3]; rfl) ?_
        refine am_R.next ((hp 32).trans rfl) rfl ?_
        refine am_R.next ((hp 33).trans rfl) rfl ?_
        refine r_cv (bs := [.inl y3]) (st' := []) ((hp 34).trans rfl) (hw.o (i := 30) (by decide) rfl) rfl rfl (Nat.le_of_ble_eq_true rfl) (Nat.le_of_ble_eq_true rfl) (am_R.post H (fun v g4 hq => ?_))
        obtain ⟨r5, rfl, hw, H⟩ := hq
        change am_R _ _ _ _ _ [.inl r5] _ _
        refine r_if ((hp 37).trans rfl) (fun c10 => ?_) (fun c10 => ?_)
        · have H := H.1 c10
          refine am_R.next ((hp 60).trans rfl) rfl ?_
          exact am_R.ret ((hp 61).trans rfl) rfl H
        · have H := H.2 (Decidable.not_not.mp c10)
          refine am_R.next ((hp 40).trans rfl) rfl ?_
          refine am_R.next ((hp 41).trans rfl) rfl ?_
          refine r_cv (bs := [.inl y3]) (st' := []) ((hp 42).trans rfl) (hw.o (i := 30) (by decide) rfl) rfl rfl (Nat.le_of_ble_eq_true rfl) (Nat.le_of_ble_eq_true rfl) (am_R.post H (fun v g6 hq => ?_))
          obtain ⟨r7, rfl, hw, H⟩ := hq
          change am_R _ _ _ _ _ [.inl r7] _ _
          refine am_R.next ((hp 45).trans rfl) rfl ?_
          refine am_R.next ((hp 46).trans rfl) rfl ?_
          refine am_R.next ((hp 47).trans rfl) rfl ?_
          refine r_ic ((hp 48).trans rfl) (fun c9 => ?_) (fun c9 => ?_)
          · have H := H.1 c9
            refine am_R.next ((hp 60).trans rfl) rfl ?_
            exact am_R.ret ((hp 61).trans rfl) rfl H
          · have H := H.2 (Decidable.not_not.mp c9)
            refine am_R.next ((hp 51).trans rfl) rfl ?_
            refine r_getR ((hp 52).trans rfl) (hw.o (i := 30) (by decide) rfl) (hw.r wr_30_3) ?_
            refine am_R.next ((hp 55).trans rfl) rfl ?_
            obtain ⟨c8, H⟩ := H
            refine r_iald ((hp 56).trans rfl) (hw.a (i := 35) (by decide) rfl c8.1 c8.2) ?_
            refine am_R.next ((hp 57).trans rfl) rfl ?_
            exact am_R.ret ((hp 61).trans rfl) rfl H
      · have H := H.2 (Decidable.not_not.mp c11)
        refine am_R.next ((hp 21).trans rfl) rfl ?_
        exact am_R.ret ((hp 24).trans rfl) rfl H
theorem w_Graph_leaveAlone_0 {scr : Nat × (Nat → Int)} {d : Nat} {h : am_H} {Q : Option am_V → am_H → Prop} (hs : am_sc scr) (hw : wf h) (H : am_R (am_prog scr) d f_jA_fill2 0 [some (.inr (.inr ((39 : Nat) : Int))), some (.inl (-1)), none, none] [] h (fun v g1 => v = none ∧ wf g1 ∧ (∀ h2 : am_H, h2 = am_put g1 30 11 0 → (∀ h3 : am_H, h3 = am_put h2 30 12 (-1) → (∀ h4 : am_H, h4 = am_put h3 38 0 (h3.2.2.2 30 5) → (am_R (am_prog scr) (d + 1) f_Graph_leaveAlone 28 [some (.inr (.inr ((30 : Nat) : Int))), none] [] h4 Q)))))) : am_R (am_prog scr) (d + 1) f_Graph_leaveAlone 0 [some (.inr (.inr ((30 : Nat) : Int))), none] [] h Q := by
  have hp : ∀ k, (am_prog scr).1 f_Graph_leaveAlone k = c_Graph_leaveAlone k := fun _ => rfl
  refine am_R.next ((hp 0).trans rfl) rfl ?_
  refine r_getR ((hp 1).trans rfl) (hw.o (i := 30) (by decide) rfl) (hw.r wr_30_10) ?_
  refine am_R.next ((hp 4).trans rfl) rfl ?_
  refine r_cs (as := [.inr (.inr ((39 : Nat) : Int)), .inl (-1)]) (st' := []) ((hp 5).trans rfl) rfl rfl (Nat.le_of_ble_eq_true rfl) (Nat.le_of_ble_eq_true rfl) (am_R.post H (fun v g1 hq => ?_))
  obtain ⟨rfl, hw, H⟩ := hq
  change am_R _ _ _ _ _ [] _ _
  refine am_R.next ((hp 8).trans rfl) rfl ?_
  refine am_R.next ((hp 9).trans rfl) rfl ?_
  obtain ⟨h2, eh2⟩ : ∃ z : am_H, z = am_put g1 30 11 0 := ⟨_, rfl⟩
  have H := H h2 eh2
  refine r_putI ((hp 10).trans rfl) (hw.o (i := 30) (by decide) rfl) ?_
  have hw : wf h2 := by rw [eh2]; exact hw.put np_30_11
  change am_R _ _ _ _ _ _ (am_put g1 30 11 0) _
  rw [← eh2]
  refine am_R.next ((hp 13).trans rfl) rfl ?_
  refine am_R.next ((hp 14).trans rfl) rfl ?_
  obtain ⟨h3, eh3⟩ : ∃ z : am_H, z = am_put h2 30 12 (-1) := ⟨_, rfl⟩
  have H := H h3 eh3
  refine r_putI ((hp 15).trans rfl) (hw.o (i := 30) (by decide) rfl) ?_
  have hw : wf h3 := by rw [eh3]; exact hw.put np_30_12
  change am_R _ _ _ _ _ _ (am_put h2 30 12 (-1)) _
  rw [← eh3]
  refine am_R.next ((hp 18).trans rfl) rfl ?_
  refine r_getR ((hp 19).trans rfl) (hw.o (i := 30) (by decide) rfl) (hw.r wr_30_9) ?_
  refine am_R.next ((hp 22).trans rfl) rfl ?_
  refine am_R.next ((hp 23).trans rfl) rfl ?_
  refine r_getI ((hp 24).trans rfl) (hw.o (i := 30) (by decide) rfl) ?_
  obtain ⟨h4, eh4⟩ : ∃ z : am_H, z = am_put h3 38 0 (h3.2.2.2 30 5) := ⟨_, rfl⟩
  have H := H h4 eh4
  refine r_iast ((hp 27).trans rfl) (hw.a (i := 38) (by decide) rfl (by decide) (by decide)) ?_
  have hw : wf h4 := by rw [eh4]; exact hw.pa na_38
  change am_R _ _ _ _ _ _ (am_put h3 38 0 (h3.2.2.2 30 5)) _
  rw [← eh4]
  exact H
theorem w_Graph_leaveAlone_28 {scr : Nat × (Nat → Int)} {d : Nat} {h : am_H} {Q : Option am_V → am_H → Prop} (hs : am_sc scr) (hw : wf h) (H : (¬ ((h.2.2.2 30 11) < 180) → (Q none h)) ∧ ((h.2.2.2 30 11) < 180 → ((¬ ((h.2.2.2 30 12) = (-1)) → (Q none h)) ∧ ((h.2.2.2 30 12) = (-1) → ((0 ≤ (h.2.2.2 30 11) ∧ (h.2.2.2 30 11) < 181) ∧ (am_R (am_prog scr) d f_Graph_goesOn 0 [some (.inr (.inr ((30 : Nat) : Int))), some (.inl (h.2.2.2 38 ((h.2.2.2 30 11).toNat)))] [] h (fun v g2 => ∃ r3 : Int, v = some (.inl r3) ∧ wf g2 ∧ ((r3 = 0 → (Q none g2)) ∧ (¬ (r3 = 0) → ((0 ≤ (g2.2.2.2 30 11) ∧ (g2.2.2.2 30 11) < 181) ∧ (∀ y5 : Int, y5 = g2.2.2.2 38 ((g2.2.2.2 30 11).toNat) → (((0 ≤ y5 ∧ y5 < 180)) ∧ (∀ h7 : am_H, h7 = am_put g2 39 y5.toNat (g2.2.2.2 30 11) → (∀ h8 : am_H, h8 = am_put h7 30 11 (am_w ((h7.2.2.2 30 11) + 1)) → (am_R (am_prog scr) d f_Graph_after 0 [some (.inr (.inr ((30 : Nat) : Int))), some (.inl y5), some (.inl 0), none] [] h8 (fun v g9 => ∃ r10 : Int, v = some (.inl r10) ∧ wf g9 ∧ (((0 ≤ (h8.2.2.2 30 11) ∧ (h8.2.2.2 30 11) < 181)) ∧ (∀ h12 : am_H, h12 = am_put g9 38 ((h8.2.2.2 30 11).toNat) r10 → ((0 ≤ (h12.2.2.2 30 11) ∧ (h12.2.2.2 30 11) < 181) ∧ (am_R (am_prog scr) d f_Graph_goesOn 0 [some (.inr (.inr ((30 : Nat) : Int))), some (.inl (h12.2.2.2 38 ((h12.2.2.2 30 11).toNat)))] [] h12 (fun v g14 => ∃ r15 : Int, v = some (.inl r15) ∧ wf g14 ∧ ((r15 = 0 → (am_R (am_prog scr) (d + 1) f_Graph_leaveAlone 28 [some (.inr (.inr ((30 : Nat) : Int))), none] [] g14 Q)) ∧ (¬ (r15 = 0) → ((0 ≤ (g14.2.2.2 30 11) ∧ (g14.2.2.2 30 11) < 181) ∧ ((0 ≤ (g14.2.2.2 38 ((g14.2.2.2 30 11).toNat)) ∧ (g14.2.2.2 38 ((g14.2.2.2 30 11).toNat)) < 180) ∧ (∀ h18 : am_H, h18 = am_put g14 30 12 (g14.2.2.2 39 ((g14.2.2.2 38 ((g14.2.2.2 30 11).toNat)).toNat)) → (am_R (am_prog scr) (d + 1) f_Graph_leaveAlone 28 [some (.inr (.inr ((30 : Nat) : Int))), none] [] h18 Q))))))))))))))))))))))))))) : am_R (am_prog scr) (d + 1) f_Graph_leaveAlone 28 [some (.inr (.inr ((30 : Nat) : Int))), none] [] h Q := by
  have hp : ∀ k, (am_prog scr).1 f_Graph_leaveAlone k = c_Graph_leaveAlone k := fun _ => rfl
  refine am_R.next ((hp 28).trans rfl) rfl ?_
  refine r_getI ((hp 29).trans rfl) (hw.o (i := 30) (by decide) rfl) ?_
  refine am_R.next ((hp 32).trans rfl) rfl ?_
  refine r_ic ((hp 35).trans rfl) (fun c22 => ?_) (fun c22 => ?_)
  · have H := H.1 c22
    exact am_R.ret ((hp 144).trans rfl) rfl H
  · have H := H.2 (Decidable.not_not.mp c22)
    refine am_R.next ((hp 38).trans rfl) rfl ?_
    refine r_getI ((hp 39).trans rfl) (hw.o (i := 30) (by decide) rfl) ?_
    refine am_R.next ((hp 42).trans rfl) rfl ?_
    refine r_ic ((hp 43).trans rfl) (fun c21 => ?_) (fun c21 => ?_)
    · have H := H.1 c21
      exact am_R.ret ((hp 144).trans rfl) rfl H
    · have H := H.2 (Decidable.not_not.mp c21)
      refine am_R.next ((hp 46).trans rfl) rfl ?_
      refine am_R.next ((hp 47).trans rfl) rfl ?_
      refine r_getR ((hp 48).trans rfl) (hw.o (i := 30) (by decide) rfl) (hw.r wr_30_9) ?_
      refine am_R.next ((hp 51).trans rfl) rfl ?_
      refine r_getI ((hp 52).trans rfl) (hw.o (i := 30) (by decide) rfl) ?_
      obtain ⟨c1, H⟩ := H
      refine r_iald ((hp 55).trans rfl) (hw.a (i := 38) (by decide) rfl c1.1 c1.2) ?_
      refine r_cv (bs := [.inl (h.2.2.2 38 ((h.2.2.2 30 11).toNat))]) (st' := []) ((hp 56).trans rfl) (hw.o (i := 30) (by decide) rfl) rfl rfl (Nat.le_of_ble_eq_true rfl) (Nat.le_of_ble_eq_true rfl) (am_R.post H (fun v g2 hq => ?_))
      obtain ⟨r3, rfl, hw, H⟩ := hq
      change am_R _ _ _ _ _ [.inl r3] _ _
      refine r_if ((hp 59).trans rfl) (fun c20 => ?_) (fun c20 => ?_)
      · have H := H.1 c20
        exact am_R.ret ((hp 144).trans rfl) rfl H
      · have H := H.2 c20
        refine am_R.next ((hp 62).trans rfl) rfl ?_
        refine r_getR ((hp 63).trans rfl) (hw.o (i := 30) (by decide) rfl) (hw.r wr_30_9) ?_
        refine am_R.next ((hp 66).trans rfl) rfl ?_
        refine r_getI ((hp 67).trans rfl) (hw.o (i := 30) (by decide) rfl) ?_
        obtain ⟨c4, H⟩ := H
        refine r_iald ((hp 70).trans rfl) (hw.a (i := 38) (by decide) rfl c4.1 c4.2) ?_
        obtain ⟨y5, ey5⟩ : ∃ z : Int, z = g2.2.2.2 38 ((g2.2.2.2 30 11).toNat) := ⟨_, rfl⟩
        have H := H y5 ey5
        refine am_R.next (lv' := [some (.inr (.inr ((30 : Nat) : Int))), some (.inl y5)]) (st' := []) (h' := g2) (pc' := 72) ((hp 71).trans rfl) (by rw [ey5]; rfl) ?_
        refine am_R.next ((hp 72).trans rfl) rfl ?_
        refine r_getR ((hp 73).trans rfl) (hw.o (i := 30) (by decide) rfl) (hw.r wr_30_10) ?_
        refine am_R.next ((hp 76).trans rfl) rfl ?_
        refine am_R.next ((hp 77).trans rfl) rfl ?_
        refine r_getI ((hp 78).trans rfl) (hw.o (i := 30) (by decide) rfl) ?_
        obtain ⟨c6, H⟩ := H
        obtain ⟨h7, eh7⟩ : ∃ z : am_H, z = am_put g2 39 y5.toNat (g2.2.2.2 30 11) := ⟨_, rfl⟩
        have H := H h7 eh7
        refine r_iast ((hp 81).trans rfl) (hw.a (i := 39) (by decide) rfl c6.1 c6.2) ?_
        have hw : wf h7 := by rw [eh7]; exact hw.pa na_39
        change am_R _ _ _ _ _ _ (am_put g2 39 y5.toNat (g2.2.2.2 30 11)) _
        rw [← eh7]
        refine am_R.next ((hp 82).trans rfl) rfl ?_
        refine am_R.next ((hp 83).trans rfl) rfl ?_
        refine r_getI ((hp 84).trans rfl) (hw.o (i := 30) (by decide) rfl) ?_
        refine am_R.next ((hp 87).trans rfl) rfl ?_
        refine am_R.next ((hp 88).trans rfl) rfl ?_
        obtain ⟨h8, eh8⟩ : ∃ z : am_H, z = am_put h7 30 11 (am_w ((h7.2.2.2 30 11) + 1)) := ⟨_, rfl⟩
        have H := H h8 eh8
        refine r_putI ((hp 89).trans rfl) (hw.o (i := 30) (by decide) rfl) ?_
        have hw : wf h8 := by rw [eh8]; exact hw.put np_30_11
        change am_R _ _ _ _ _ _ (am_put h7 30 11 (am_w ((h7.2.2.2 30 11) + 1))) _
        rw [← eh8]
        refine am_R.next ((hp 92).trans rfl) rfl ?_
        refine r_getR ((hp 93).trans rfl) (hw.o (i := 30) (by decide) rfl) (hw.r wr_30_9) ?_
        refine am_R.next ((hp 96).trans rfl) rfl ?_
        refine r_getI ((hp 97).trans rfl) (hw.o (i := 30) (by decide) rfl) ?_
        refine am_R.next ((hp 100).trans rfl) rfl ?_
        refine am_R.next ((hp 101).trans rfl) rfl ?_
        refine am_R.next ((hp 102).trans rfl) rfl ?_
        refine r_cv (bs := [.inl y5, .inl 0]) (st' := [.inl (h8.2.2.2 30 11), .inr (.inr ((38 : Nat) : Int))]) ((hp 103).trans rfl) (hw.o (i := 30) (by decide) rfl) rfl rfl (Nat.le_of_ble_eq_true rfl) (Nat.le_of_ble_eq_true rfl) (am_R.post H (fun v g9 hq => ?_))
        obtain ⟨r10, rfl, hw, H⟩ := hq
        change am_R _ _ _ _ _ [.inl r10, .inl (h8.2.2.2 30 11), .inr (.inr ((38 : Nat) : Int))] _ _
        obtain ⟨c11, H⟩ := H
        obtain ⟨h12, eh12⟩ : ∃ z : am_H, z = am_put g9 38 ((h8.2.2.2 30 11).toNat) r10 := ⟨_, rfl⟩
        have H := H h12 eh12
        refine r_iast ((hp 106).trans rfl) (hw.a (i := 38) (by decide) rfl c11.1 c11.2) ?_
        have hw : wf h12 := by rw [eh12]; exact hw.pa na_38
        change am_R _ _ _ _ _ _ (am_put g9 38 ((h8.2.2.2 30 11).toNat) r10) _
        rw [← eh12]
        refine am_R.next ((hp 107).trans rfl) rfl ?_
        refine am_R.next ((hp 108).trans rfl) rfl ?_
        refine r_getR ((hp 109).trans rfl) (hw.o (i := 30) (by decide) rfl) (hw.r wr_30_9) ?_
        refine am_R.next ((hp 112).trans rfl) rfl ?_
        refine r_getI ((hp 113).trans rfl) (hw.o (i := 30) (by decide) rfl) ?_
        obtain ⟨c13, H⟩ := H
        refine r_iald ((hp 116).trans rfl) (hw.a (i := 38) (by decide) rfl c13.1 c13.2) ?_
        refine r_cv (bs := [.inl (h12.2.2.2 38 ((h12.2.2.2 30 11).toNat))]) (st' := []) ((hp 117).trans rfl) (hw.o (i := 30) (by decide) rfl) rfl rfl (Nat.le_of_ble_eq_true rfl) (Nat.le_of_ble_eq_true rfl) (am_R.post H (fun v g14 hq => ?_))
        obtain ⟨r15, rfl, hw, H⟩ := hq
        change am_R _ _ _ _ _ [.inl r15] _ _
        refine r_if ((hp 120).trans rfl) (fun c19 => ?_) (fun c19 => ?_)
        · have H := H.1 c19
          refine am_R.next ((hp 141).trans rfl) rfl ?_
          exact r_le hs in_196 (le_k (le_d le_n)) H
        · have H := H.2 c19
          refine am_R.next ((hp 123).trans rfl) rfl ?_
          refine am_R.next ((hp 124).trans rfl) rfl ?_
          refine r_getR ((hp 125).trans rfl) (hw.o (i := 30) (by decide) rfl) (hw.r wr_30_10) ?_
          refine am_R.next ((hp 128).trans rfl) rfl ?_
          refine r_getR ((hp 129).trans rfl) (hw.o (i := 30) (by decide) rfl) (hw.r wr_30_9) ?_
          refine am_R.next ((hp 132).trans rfl) rfl ?_
          refine r_getI ((hp 133).trans rfl) (hw.o (i := 30) (by decide) rfl) ?_
          obtain ⟨c16, H⟩ := H
          refine r_iald ((hp 136).trans rfl) (hw.a (i := 38) (by decide) rfl c16.1 c16.2) ?_
          obtain ⟨c17, H⟩ := H
          refine r_iald ((hp 137).trans rfl) (hw.a (i := 39) (by decide) rfl c17.1 c17.2) ?_
          obtain ⟨h18, eh18⟩ : ∃ z : am_H, z = am_put g14 30 12 (g14.2.2.2 39 ((g14.2.2.2 38 ((g14.2.2.2 30 11).toNat)).toNat)) := ⟨_, rfl⟩
          have H := H h18 eh18
          refine r_putI ((hp 138).trans rfl) (hw.o (i := 30) (by decide) rfl) ?_
          have hw : wf h18 := by rw [eh18]; exact hw.put np_30_12
          change am_R _ _ _ _ _ _ (am_put g14 30 12 (g14.2.2.2 39 ((g14.2.2.2 38 ((g14.2.2.2 30 11).toNat)).toNat))) _
          rw [← eh18]
          refine am_R.next ((hp 141).trans rfl) rfl ?_
          exact r_le hs in_196 (le_k (le_d le_n)) H
theorem w_Graph_snorerAlone_0 {scr : Nat × (Nat → Int)} {d : Nat} {h : am_H} {Q : Option am_V → am_H → Prop} {x1 : Int} (hs : am_sc scr) (hw : wf h) (H : (x1 ≤ (h.2.2.2 30 11) → (am_R (am_prog scr) (d + 1) f_Graph_snorerAlone 49 [some (.inr (.inr ((30 : Nat) : Int))), some (.inl x1), some (.inl x1), none] [] h Q)) ∧ (¬ (x1 ≤ (h.2.2.2 30 11)) → (∀ y1 : Int, y1 = am_w ((h.2.2.2 30 11) - (h.2.2.2 30 12)) → (((h.2.2.2 30 12) = (-1) → (Q (some (.inl (-1))) h)) ∧ (¬ ((h.2.2.2 30 12) = (-1)) → ((¬ (y1 < 1) → (y1 ≠ 0 ∧ (∀ y2 : Int, y2 = am_w ((h.2.2.2 30 12) + ((am_w (x1 - (h.2.2.2 30 12))).tmod y1)) → (am_R (am_prog scr) (d + 1) f_Graph_snorerAlone 49 [some (.inr (.inr ((30 : Nat) : Int))), some (.inl x1), some (.inl y2), none] [] h Q)))) ∧ (y1 < 1 → (Q (some (.inl (-1))) h)))))))) : am_R (am_prog scr) (d + 1) f_Graph_snorerAlone 0 [some (.inr (.inr ((30 : Nat) : Int))), some (.inl x1), none, none] [] h Q := by
  have hp : ∀ k, (am_prog scr).1 f_Graph_snorerAlone k = c_Graph_snorerAlone k := fun _ => rfl
  refine am_R.next ((hp 0).trans rfl) rfl ?_
  refine am_R.next (lv' := [some (.inr (.inr ((30 : Nat) : Int))), some (.inl x1), some (.inl x1), none]) ((hp 1).trans rfl) rfl ?_
  refine am_R.next ((hp 2).trans rfl) rfl ?_
  refine am_R.next ((hp 3).trans rfl) rfl ?_
  refine r_getI ((hp 4).trans rfl) (hw.o (i := 30) (by decide) rfl) ?_
  refine r_ic ((hp 7).trans rfl) (fun c6 => ?_) (fun c6 => ?_)
  · have H := H.1 c6
    exact H
  · have H := H.2 c6
    refine am_R.next ((hp 10).trans rfl) rfl ?_
    refine r_getI ((hp 11).trans rfl) (hw.o (i := 30) (by decide) rfl) ?_
    refine am_R.next ((hp 14).trans rfl) rfl ?_
    refine r_getI ((hp 15).trans rfl) (hw.o (i := 30) (by decide) rfl) ?_
    refine am_R.next ((hp 18).trans rfl) rfl ?_
    obtain ⟨y1, ey1⟩ : ∃ z : Int, z = am_w ((h.2.2.2 30 11) - (h.2.2.2 30 12)) := ⟨_, rfl⟩
    have H := H y1 ey1
    refine am_R.next (lv' := [some (.inr (.inr ((30 : Nat) : Int))), some (.inl x1), some (.inl x1), some (.inl y1)]) (st' := []) (h' := h) (pc' := 20) ((hp 19).trans rfl) (by rw [ey1]; rfl) ?_
    refine am_R.next ((hp 20).trans rfl) rfl ?_
    refine r_getI ((hp 21).trans rfl) (hw.o (i := 30) (by decide) rfl) ?_
    refine am_R.next ((hp 24).trans rfl) rfl ?_
    refine r_ic ((hp 25).trans rfl) (fun c5 => ?_) (fun c5 => ?_)
    · have H := H.1 c5
      refine am_R.next ((hp 33).trans rfl) rfl ?_
      exact am_R.ret ((hp 34).trans rfl) rfl H
    · have H := H.2 c5
      refine am_R.next ((hp 28).trans rfl) rfl ?_
      refine am_R.next ((hp 29).trans rfl) rfl ?_
      refine r_ic ((hp 30).trans rfl) (fun c4 => ?_) (fun c4 => ?_)
      · have H := H.1 c4
        refine am_R.next ((hp 35).trans rfl) rfl ?_
        refine r_getI ((hp 36).trans rfl) (hw.o (i := 30) (by decide) rfl) ?_
        refine am_R.next ((hp 39).trans rfl) rfl ?_
        refine am_R.next ((hp 40).trans rfl) rfl ?_
        refine r_getI ((hp 41).trans rfl) (hw.o (i := 30) (by decide) rfl) ?_
        refine am_R.next ((hp 44).trans rfl) rfl ?_
        refine am_R.next ((hp 45).trans rfl) rfl ?_
        obtain ⟨c3, H⟩ := H
        refine r_i2z ((hp 46).trans rfl) c3 ?_
        refine am_R.next ((hp 47).trans rfl) rfl ?_
        obtain ⟨y2, ey2⟩ : ∃ z : Int, z = am_w ((h.2.2.2 30 12) + ((am_w (x1 - (h.2.2.2 30 12))).tmod y1)) := ⟨_, rfl⟩
        have H := H y2 ey2
        refine am_R.next (lv' := [some (.inr (.inr ((30 : Nat) : Int))), some (.inl x1), some (.inl y2), some (.inl y1)]) (st' := []) (h' := h) (pc' := 49) ((hp 48).trans rfl) (by rw [ey2]; rfl) ?_
        exact r_le hs in_197 (le_k (le_k (le_k (le_d le_n)))) H
      · have H := H.2 (Decidable.not_not.mp c4)
        refine am_R.next ((hp 33).trans rfl) rfl ?_
        exact am_R.ret ((hp 34).trans rfl) rfl H
theorem w_Graph_snorerAlone_49 {scr : Nat × (Nat → Int)} {d : Nat} {h : am_H} {Q : Option am_V → am_H → Prop} {x1 x2 : Int} (hs : am_sc scr) (hw : wf h) (H : (0 ≤ x2 ∧ x2 < 181) ∧ (∀ y2 : Int, y2 = h.2.2.2 38 x2.toNat → (am_R (am_prog scr) d f_Graph_isStill 0 [some (.inr (.inr ((30 : Nat) : Int))), some (.inl y2)] [] h (fun v g3 => ∃ r4 : Int, v = some (.inl r4) ∧ wf g3 ∧ ((r4 = 0 → (am_R (am_prog scr) d f_Graph_lastOf 0 [some (.inr (.inr ((30 : Nat) : Int))), some (.inl y2)] [] g3 (fun v g5 => ∃ r6 : Int, v = some (.inl r6) ∧ wf g5 ∧ (Q (some (.inl r6)) g5)))) ∧ (¬ (r4 = 0) → (Q (some (.inl (-1))) g3))))))) : am_R (am_prog scr) (d + 1) f_Graph_snorerAlone 49 [some (.inr (.inr ((30 : Nat) : Int))), some (.inl x1), some (.inl x2), none] [] h Q := by
  have hp : ∀ k, (am_prog scr).1 f_Graph_snorerAlone k = c_Graph_snorerAlone k := fun _ => rfl
  refine am_R.next ((hp 49).trans rfl) rfl ?_
  refine r_getR ((hp 50).trans rfl) (hw.o (i := 30) (by decide) rfl) (hw.r wr_30_9) ?_
  refine am_R.next ((hp 53).trans rfl) rfl ?_
  obtain ⟨c1, H⟩ := H
  refine r_iald ((hp 54).trans rfl) (hw.a (i := 38) (by decide) rfl c1.1 c1.2) ?_
  obtain ⟨y2, ey2⟩ : ∃ z : Int, z = h.2.2.2 38 x2.toNat := ⟨_, rfl⟩
  have H := H y2 ey2
  refine am_R.next (lv' := [some (.inr (.inr ((30 : Nat) : Int))), some (.inl x1), some (.inl x2), some (.inl y2)]) (st' := []) (h' := h) (pc' := 56) ((hp 55).trans rfl) (by rw [ey2]; rfl) ?_
  refine am_R.next ((hp 56).trans rfl) rfl ?_
  refine am_R.next ((hp 57).trans rfl) rfl ?_
  refine r_cv (bs := [.inl y2]) (st' := []) ((hp 58).trans rfl) (hw.o (i := 30) (by decide) rfl) rfl rfl (Nat.le_of_ble_eq_true rfl) (Nat.le_of_ble_eq_true rfl) (am_R.post H (fun v g3 hq => ?_))
  obtain ⟨r4, rfl, hw, H⟩ := hq
  change am_R _ _ _ _ _ [.inl r4] _ _
  refine r_if ((hp 61).trans rfl) (fun c7 => ?_) (fun c7 => ?_)
  · have H := H.1 c7
    refine am_R.next ((hp 68).trans rfl) rfl ?_
    refine am_R.next ((hp 69).trans rfl) rfl ?_
    refine r_cv (bs := [.inl y2]) (st' := []) ((hp 70).trans rfl) (hw.o (i := 30) (by decide) rfl) rfl rfl (Nat.le_of_ble_eq_true rfl) (Nat.le_of_ble_eq_true rfl) (am_R.post H (fun v g5 hq => ?_))
    obtain ⟨r6, rfl, hw, H⟩ := hq
    change am_R _ _ _ _ _ [.inl r6] _ _
    exact am_R.ret ((hp 73).trans rfl) rfl H
  · have H := H.2 c7
    refine am_R.next ((hp 64).trans rfl) rfl ?_
    refine am_R.next ((hp 65).trans rfl) rfl ?_
    exact am_R.ret ((hp 73).trans rfl) rfl H
theorem w_House_hasTold_0 {scr : Nat × (Nat → Int)} {d : Nat} {h : am_H} {Q : Option am_V → am_H → Prop} {x1 a0 : Int} (hs : am_sc scr) (hw : wf h) (H : am_R (am_prog scr) d f_House_hasTold 2 [some (.inr (.inr a0)), some (.inl x1), some (.inl 0)] [] h Q) : am_R (am_prog scr) d f_House_hasTold 0 [some (.inr (.inr a0)), some (.inl x1), none] [] h Q := by
  have hp : ∀ k, (am_prog scr).1 f_House_hasTold k = c_House_hasTold k := fun _ => rfl
  refine am_R.next ((hp 0).trans rfl) rfl ?_
  refine am_R.next (lv' := [some (.inr (.inr a0)), some (.inl x1), some (.inl 0)]) ((hp 1).trans rfl) rfl ?_
  exact H
theorem w_House_hasTold_2 {scr : Nat × (Nat → Int)} {d : Nat} {h : am_H} {Q : Option am_V → am_H → Prop} {x1 x2 a0 : Int} (hs : am_sc scr) (hw : wf h) (H : am_isO h a0 1 ∧ ((¬ (x2 < (h.2.2.2 a0.toNat 4)) → (Q (some (.inl 0)) h)) ∧ (x2 < (h.2.2.2 a0.toNat 4) → (am_isO h a0 1 ∧ (am_inA h (h.2.2.2 a0.toNat 5) 1 x2 ∧ ((¬ ((h.2.2.2 ((h.2.2.2 a0.toNat 5).toNat) x2.toNat) = x1) → (∀ y4 : Int, y4 = am_w (x2 + 1) → (am_R (am_prog scr) d f_House_hasTold 2 [some (.inr (.inr a0)), some (.inl x1), some (.inl y4)] [] h Q))) ∧ ((h.2.2.2 ((h.2.2.2 a0.toNat 5).toNat) x2.toNat) = x1 → (Q (some (.inl 1)) h)))))))) : am_R (am_prog scr) d f_House_hasTold 2 [some (.inr (.inr a0)), some (.inl x1), some (.inl x2)] [] h Q := by
  have hp : ∀ k, (am_prog scr).1 f_House_hasTold k = c_House_hasTold k := fun _ => rfl
  refine am_R.next ((hp 2).trans rfl) rfl ?_
  refine am_R.next ((hp 3).trans rfl) rfl ?_
  obtain ⟨c1, H⟩ := H
  refine r_getI ((hp 4).trans rfl) c1 ?_
  refine r_ic ((hp 7).trans rfl) (fun c6 => ?_) (fun c6 => ?_)
  · have H := H.1 c6
    refine am_R.next ((hp 28).trans rfl) rfl ?_
    exact r_zret ((hp 29).trans rfl) (Or.inl rfl) H
  · have H := H.2 (Decidable.not_not.mp c6)
    refine am_R.next ((hp 10).trans rfl) rfl ?_
    obtain ⟨c2, H⟩ := H
    refine r_getR ((hp 11).trans rfl) c2 rfl ?_
    refine am_R.next ((hp 14).trans rfl) rfl ?_
    obtain ⟨c3, H⟩ := H
    refine r_iald ((hp 15).trans rfl) c3 ?_
    refine am_R.next ((hp 16).trans rfl) rfl ?_
    refine r_ic ((hp 17).trans rfl) (fun c5 => ?_) (fun c5 => ?_)
    · have H := H.1 c5
      obtain ⟨y4, ey4⟩ : ∃ z : Int, z = am_w (x2 + 1) := ⟨_, rfl⟩
      have H := H y4 ey4
      refine am_R.next (lv' := [some (.inr (.inr a0)), some (.inl x1), some (.inl y4)]) (st' := []) (h' := h) (pc' := 25) ((hp 22).trans rfl) (by rw [ey4]; rfl) ?_
      refine am_R.next ((hp 25).trans rfl) rfl ?_
      exact H
    · have H := H.2 (Decidable.not_not.mp c5)
      refine am_R.next ((hp 20).trans rfl) rfl ?_
      exact r_zret ((hp 21).trans rfl) (Or.inr rfl) H
theorem w_Past_forget_0 {scr : Nat × (Nat → Int)} {d : Nat} {h : am_H} {Q : Option am_V → am_H → Prop} (hs : am_sc scr) (hw : wf h) (H : ∀ h1 : am_H, h1 = am_put h 63 2 0 → (Q none h1)) : am_R (am_prog scr) d f_Past_forget 0 [some (.inr (.inr ((63 : Nat) : Int)))] [] h Q := by
  have hp : ∀ k, (am_prog scr).1 f_Past_forget k = c_Past_forget k := fun _ => rfl
  refine am_R.next ((hp 0).trans rfl) rfl ?_
  refine am_R.next ((hp 1).trans rfl) rfl ?_
  obtain ⟨h1, eh1⟩ : ∃ z : am_H, z = am_put h 63 2 0 := ⟨_, rfl⟩
  have H := H h1 eh1
  refine r_putI ((hp 2).trans rfl) (hw.o (i := 63) (by decide) rfl) ?_
  have hw : wf h1 := by rw [eh1]; exact hw.put np_63_2
  change am_R _ _ _ _ _ _ (am_put h 63 2 0) _
  rw [← eh1]
  exact am_R.ret ((hp 5).trans rfl) rfl H
theorem w_Past_keep_0 {scr : Nat × (Nat → Int)} {d : Nat} {h : am_H} {Q : Option am_V → am_H → Prop} {p1 : Nat} (hp1 : p1 ∈ PL) (hs : am_sc scr) (hw : wf h) (H : (0 ≤ (h.2.2.2 63 1) ∧ (h.2.2.2 63 1) < 10) ∧ (am_R (am_prog scr) d f_Play_takeFrom 0 [some (.inr (.inr (((65 + 3 * (h.2.2.2 63 1).toNat) : Nat) : Int))), some (.inr (.inr ((p1 : Nat) : Int)))] [] h (fun v g2 => v = none ∧ wf g2 ∧ (∀ h3 : am_H, h3 = am_put g2 63 1 ((am_w ((g2.2.2.2 63 1) + 1)).tmod 10) → (am_R (am_prog scr) d f_jM_min 0 [some (.inl (am_w ((h3.2.2.2 63 2) + 1))), some (.inl 10)] [] h3 (fun v g4 => ∃ r5 : Int, v = some (.inl r5) ∧ wf g4 ∧ (∀ h6 : am_H, h6 = am_put g4 63 2 r5 → (Q none h6)))))))) : am_R (am_prog scr) (d + 1) f_Past_keep 0 [some (.inr (.inr ((63 : Nat) : Int))), some (.inr (.inr ((p1 : Nat) : Int)))] [] h Q := by
  have hp : ∀ k, (am_prog scr).1 f_Past_keep k = c_Past_keep k := fun _ => rfl
  refine am_R.next ((hp 0).trans rfl) rfl ?_
  refine r_getR ((hp 1).trans rfl) (hw.o (i := 63) (by decide) rfl) (hw.r wr_63_0) ?_
  refine am_R.next ((hp 4).trans rfl) rfl ?_
  refine r_getI ((hp 5).trans rfl) (hw.o (i := 63) (by decide) rfl) ?_
  obtain ⟨c1, H⟩ := H
  refine r_aald ((hp 8).trans rfl) (hw.a (i := 64) (by decide) rfl c1.1 c1.2) (pl_ring hw c1).2 ?_
  refine am_R.next ((hp 9).trans rfl) rfl ?_
  refine r_cv (bs := [.inr (.inr ((p1 : Nat) : Int))]) (st' := []) ((hp 10).trans rfl) (pl_o (pl_ring hw c1).1 hw) rfl rfl (Nat.le_of_ble_eq_true rfl) (Nat.le_of_ble_eq_true rfl) (am_R.post H (fun v g2 hq => ?_))
  obtain ⟨rfl, hw, H⟩ := hq
  change am_R _ _ _ _ _ [] _ _
  refine am_R.next ((hp 13).trans rfl) rfl ?_
  refine am_R.next ((hp 14).trans rfl) rfl ?_
  refine r_getI ((hp 15).trans rfl) (hw.o (i := 63) (by decide) rfl) ?_
  refine am_R.next ((hp 18).trans rfl) rfl ?_
  refine am_R.next ((hp 19).trans rfl) rfl ?_
  refine am_R.next ((hp 20).trans rfl) rfl ?_
  refine r_getR ((hp 21).trans rfl) (hw.o (i := 63) (by decide) rfl) (hw.r wr_63_0) ?_
  refine r_alen (n := 10) ((hp 24).trans rfl) (hw.l (i := 64) (by decide) rfl (by decide)) (congrArg Prod.snd (hw.k (i := 64) (x := (5, 10)) (by decide) rfl)) ?_
  refine r_i2z ((hp 25).trans rfl) (by decide) ?_
  obtain ⟨h3, eh3⟩ : ∃ z : am_H, z = am_put g2 63 1 ((am_w ((g2.2.2.2 63 1) + 1)).tmod 10) := ⟨_, rfl⟩
  have H := H h3 eh3
  refine r_putI ((hp 26).trans rfl) (hw.o (i := 63) (by decide) rfl) ?_
  have hw : wf h3 := by rw [eh3]; exact hw.put np_63_1
  change am_R _ _ _ _ _ _ (am_put g2 63 1 ((am_w ((g2.2.2.2 63 1) + 1)).tmod 10)) _
  rw [← eh3]
  refine am_R.next ((hp 29).trans rfl) rfl ?_
  refine am_R.next ((hp 30).trans rfl) rfl ?_
  refine r_getI ((hp 31).trans rfl) (hw.o (i := 63) (by decide) rfl) ?_
  refine am_R.next ((hp 34).trans rfl) rfl ?_
  refine am_R.next ((hp 35).trans rfl) rfl ?_
  refine am_R.next ((hp 36).trans rfl) rfl ?_
  refine r_getR ((hp 37).trans rfl) (hw.o (i := 63) (by decide) rfl) (hw.r wr_63_0) ?_
  refine r_alen (n := 10) ((hp 40).trans rfl) (hw.l (i := 64) (by decide) rfl (by decide)) (congrArg Prod.snd (hw.k (i := 64) (x := (5, 10)) (by decide) rfl)) ?_
  refine r_cs (as := [.inl (am_w ((h3.2.2.2 63 2) + 1)), .inl 10]) (st' := [.inr (.inr ((63 : Nat) : Int))]) ((hp 41).trans rfl) rfl rfl (Nat.le_of_ble_eq_true rfl) (Nat.le_of_ble_eq_true rfl) (am_R.post H (fun v g4 hq => ?_))
  obtain ⟨r5, rfl, hw, H⟩ := hq
  change am_R _ _ _ _ _ [.inl r5, .inr (.inr ((63 : Nat) : Int))] _ _
  obtain ⟨h6, eh6⟩ : ∃ z : am_H, z = am_put g4 63 2 r5 := ⟨_, rfl⟩
  have H := H h6 eh6
  refine r_putI ((hp 44).trans rfl) (hw.o (i := 63) (by decide) rfl) ?_
  have hw : wf h6 := by rw [eh6]; exact hw.put np_63_2
  change am_R _ _ _ _ _ _ (am_put g4 63 2 r5) _
  rw [← eh6]
  exact am_R.ret ((hp 47).trans rfl) rfl H
theorem w_Past_bringBack_0 {scr : Nat × (Nat → Int)} {d : Nat} {h : am_H} {Q : Option am_V → am_H → Prop} {x2 : Int} {p1 : Nat} (hp1 : p1 ∈ PL) (hs : am_sc scr) (hw : wf h) (H : am_R (am_prog scr) d f_jM_floorMod 0 [some (.inl (am_w ((h.2.2.2 63 1) - x2))), some (.inl 10), none] [] h (fun v g1 => ∃ r2 : Int, v = some (.inl r2) ∧ wf g1 ∧ (∀ h3 : am_H, h3 = am_put g1 63 1 r2 → (∀ h4 : am_H, h4 = am_put h3 63 2 (am_w ((h3.2.2.2 63 2) - x2)) → ((0 ≤ (h4.2.2.2 63 1) ∧ (h4.2.2.2 63 1) < 10) ∧ (am_R (am_prog scr) d f_Play_takeFrom 0 [some (.inr (.inr ((p1 : Nat) : Int))), some (.inr (.inr (((65 + 3 * (h4.2.2.2 63 1).toNat) : Nat) : Int)))] [] h4 (fun v g6 => v = none ∧ wf g6 ∧ (Q none g6)))))))) : am_R (am_prog scr) (d + 1) f_Past_bringBack 0 [some (.inr (.inr ((63 : Nat) : Int))), some (.inr (.inr ((p1 : Nat) : Int))), some (.inl x2)] [] h Q := by
  have hp : ∀ k, (am_prog scr).1 f_Past_bringBack k = c_Past_bringBack k := fun _ => rfl
  refine am_R.next ((hp 0).trans rfl) rfl ?_
  refine am_R.next ((hp 1).trans rfl) rfl ?_
  refine r_getI ((hp 2).trans rfl) (hw.o (i := 63) (by decide) rfl) ?_
  refine am_R.next ((hp 5).trans rfl) rfl ?_
  refine am_R.next ((hp 6).trans rfl) rfl ?_
  refine am_R.next ((hp 7).trans rfl) rfl ?_
  refine r_getR ((hp 8).trans rfl) (hw.o (i := 63) (by decide) rfl) (hw.r wr_63_0) ?_
  refine r_alen (n := 10) ((hp 11).trans rfl) (hw.l (i := 64) (by decide) rfl (by decide)) (congrArg Prod.snd (hw.k (i := 64) (x := (5, 10)) (by decide) rfl)) ?_
  refine r_cs (as := [.inl (am_w ((h.2.2.2 63 1) - x2)), .inl 10]) (st' := [.inr (.inr ((63 : Nat) : Int))]) ((hp 12).trans rfl) rfl rfl (Nat.le_of_ble_eq_true rfl) (Nat.le_of_ble_eq_true rfl) (am_R.post H (fun v g1 hq => ?_))
  obtain ⟨r2, rfl, hw, H⟩ := hq
  change am_R _ _ _ _ _ [.inl r2, .inr (.inr ((63 : Nat) : Int))] _ _
  obtain ⟨h3, eh3⟩ : ∃ z : am_H, z = am_put g1 63 1 r2 := ⟨_, rfl⟩
  have H := H h3 eh3
  refine r_putI ((hp 15).trans rfl) (hw.o (i := 63) (by decide) rfl) ?_
  have hw : wf h3 := by rw [eh3]; exact hw.put np_63_1
  change am_R _ _ _ _ _ _ (am_put g1 63 1 r2) _
  rw [← eh3]
  refine am_R.next ((hp 18).trans rfl) rfl ?_
  refine am_R.next ((hp 19).trans rfl) rfl ?_
  refine r_getI ((hp 20).trans rfl) (hw.o (i := 63) (by decide) rfl) ?_
  refine am_R.next ((hp 23).trans rfl) rfl ?_
  refine am_R.next ((hp 24).trans rfl) rfl ?_
  obtain ⟨h4, eh4⟩ : ∃ z : am_H, z = am_put h3 63 2 (am_w ((h3.2.2.2 63 2) - x2)) := ⟨_, rfl⟩
  have H := H h4 eh4
  refine r_putI ((hp 25).trans rfl) (hw.o (i := 63) (by decide) rfl) ?_
  have hw : wf h4 := by rw [eh4]; exact hw.put np_63_2
  change am_R _ _ _ _ _ _ (am_put h3 63 2 (am_w ((h3.2.2.2 63 2) - x2))) _
  rw [← eh4]
  refine am_R.next ((hp 28).trans rfl) rfl ?_
  refine am_R.next ((hp 29).trans rfl) rfl ?_
  refine r_getR ((hp 30).trans rfl) (hw.o (i := 63) (by decide) rfl) (hw.r wr_63_0) ?_
  refine am_R.next ((hp 33).trans rfl) rfl ?_
  refine r_getI ((hp 34).trans rfl) (hw.o (i := 63) (by decide) rfl) ?_
  obtain ⟨c5, H⟩ := H
  refine r_aald ((hp 37).trans rfl) (hw.a (i := 64) (by decide) rfl c5.1 c5.2) (pl_ring hw c5).2 ?_
  refine r_cv (bs := [.inr (.inr (((65 + 3 * (h4.2.2.2 63 1).toNat) : Nat) : Int))]) (st' := []) ((hp 38).trans rfl) (pl_o hp1 hw) rfl rfl (Nat.le_of_ble_eq_true rfl) (Nat.le_of_ble_eq_true rfl) (am_R.post H (fun v g6 hq => ?_))
  obtain ⟨rfl, hw, H⟩ := hq
  change am_R _ _ _ _ _ [] _ _
  exact am_R.ret ((hp 41).trans rfl) rfl H
theorem w_Placer_place_0 {scr : Nat × (Nat → Int)} {d : Nat} {h : am_H} {Q : Option am_V → am_H → Prop} {p1 : Nat} (hp1 : p1 ∈ PL) (hs : am_sc scr) (hw : wf h) (H : am_R (am_prog scr) d f_Play_setting 0 [some (.inr (.inr ((p1 : Nat) : Int))), none, none, none] [] h (fun v g1 => ∃ r2 : Int, v = some (.inr (.inl r2)) ∧ wf g1 ∧ ((¬ (r2 = (g1.2.2.2 57 5)) → (am_R (am_prog scr) (d + 1) f_Placer_place 24 [some (.inr (.inr ((57 : Nat) : Int))), some (.inr (.inr ((p1 : Nat) : Int))), none, none, none] [] g1 Q)) ∧ (r2 = (g1.2.2.2 57 5) → (am_R (am_prog scr) d f_Play_node 0 [some (.inr (.inr ((p1 : Nat) : Int)))] [] g1 (fun v g3 => ∃ r4 : Int, v = some (.inl r4) ∧ wf g3 ∧ ((¬ (r4 = (g3.2.2.2 57 6)) → (am_R (am_prog scr) (d + 1) f_Placer_place 24 [some (.inr (.inr ((57 : Nat) : Int))), some (.inr (.inr ((p1 : Nat) : Int))), none, none, none] [] g3 Q)) ∧ (r4 = (g3.2.2.2 57 6) → (Q none g3))))))))) : am_R (am_prog scr) (d + 1) f_Placer_place 0 [some (.inr (.inr ((57 : Nat) : Int))), some (.inr (.inr ((p1 : Nat) : Int))), none, none, none] [] h Q := by
  have hp : ∀ k, (am_prog scr).1 f_Placer_place k = c_Placer_place k := fun _ => rfl
  refine am_R.next ((hp 0).trans rfl) rfl ?_
  refine r_cv (bs := []) (st' := []) ((hp 1).trans rfl) (pl_o hp1 hw) rfl rfl (Nat.le_of_ble_eq_true rfl) (Nat.le_of_ble_eq_true rfl) (am_R.post H (fun v g1 hq => ?_))
  obtain ⟨r2, rfl, hw, H⟩ := hq
  change am_R _ _ _ _ _ [.inr (.inl r2)] _ _
  refine am_R.next ((hp 4).trans rfl) rfl ?_
  refine r_getL ((hp 5).trans rfl) (hw.o (i := 57) (by decide) rfl) ?_
  refine am_R.next ((hp 8).trans rfl) rfl ?_
  refine r_if ((hp 9).trans rfl) (fun c6 => ?_) (fun c6 => ?_)
  · have H := H.1 (lc_net c6)
    exact H
  · have H := H.2 (lc_nef c6)
    refine am_R.next ((hp 12).trans rfl) rfl ?_
    refine r_cv (bs := []) (st' := []) ((hp 13).trans rfl) (pl_o hp1 hw) rfl rfl (Nat.le_of_ble_eq_true rfl) (Nat.le_of_ble_eq_true rfl) (am_R.post H (fun v g3 hq => ?_))
    obtain ⟨r4, rfl, hw, H⟩ := hq
    change am_R _ _ _ _ _ [.inl r4] _ _
    refine am_R.next ((hp 16).trans rfl) rfl ?_
    refine r_getI ((hp 17).trans rfl) (hw.o (i := 57) (by decide) rfl) ?_
    refine r_ic ((hp 20).trans rfl) (fun c5 => ?_) (fun c5 => ?_)
    · have H := H.1 c5
      exact H
    · have H := H.2 (Decidable.not_not.mp c5)
      exact am_R.ret ((hp 23).trans rfl) rfl H
theorem w_Placer_place_24 {scr : Nat × (Nat → Int)} {d : Nat} {h : am_H} {Q : Option am_V → am_H → Prop} {p1 : Nat} (hp1 : p1 ∈ PL) (hs : am_sc scr) (hw : wf h) (H : am_R (am_prog scr) d f_Play_setting 0 [some (.inr (.inr ((p1 : Nat) : Int))), none, none, none] [] h (fun v g1 => ∃ r2 : Int, v = some (.inr (.inl r2)) ∧ wf g1 ∧ (∀ h3 : am_H, h3 = am_put g1 57 5 r2 → (am_R (am_prog scr) d f_Play_node 0 [some (.inr (.inr ((p1 : Nat) : Int)))] [] h3 (fun v g4 => ∃ r5 : Int, v = some (.inl r5) ∧ wf g4 ∧ (∀ h6 : am_H, h6 = am_put g4 57 6 r5 → (∀ h7 : am_H, h7 = am_put h6 57 4 (-1) → (am_R (am_prog scr) d f_Placer_sortBeds 0 [some (.inr (.inr ((57 : Nat) : Int))), some (.inr (.inr ((p1 : Nat) : Int))), none, none, none] [] h7 (fun v g8 => v = none ∧ wf g8 ∧ (am_R (am_prog scr) (d + 1) f_Placer_place 54 [some (.inr (.inr ((57 : Nat) : Int))), some (.inr (.inr ((p1 : Nat) : Int))), some (.inl 1), some (.inl 0), none] [] g8 Q)))))))))) : am_R (am_prog scr) (d + 1) f_Placer_place 24 [some (.inr (.inr ((57 : Nat) : Int))), some (.inr (.inr ((p1 : Nat) : Int))), none, none, none] [] h Q := by
  have hp : ∀ k, (am_prog scr).1 f_Placer_place k = c_Placer_place k := fun _ => rfl
  refine am_R.next ((hp 24).trans rfl) rfl ?_
  refine am_R.next ((hp 25).trans rfl) rfl ?_
  refine r_cv (bs := []) (st' := [.inr (.inr ((57 : Nat) : Int))]) ((hp 26).trans rfl) (pl_o hp1 hw) rfl rfl (Nat.le_of_ble_eq_true rfl) (Nat.le_of_ble_eq_true rfl) (am_R.post H (fun v g1 hq => ?_))
  obtain ⟨r2, rfl, hw, H⟩ := hq
  change am_R _ _ _ _ _ [.inr (.inl r2), .inr (.inr ((57 : Nat) : Int))] _ _
  obtain ⟨h3, eh3⟩ : ∃ z : am_H, z = am_put g1 57 5 r2 := ⟨_, rfl⟩
  have H := H h3 eh3
  refine r_putL ((hp 29).trans rfl) (hw.o (i := 57) (by decide) rfl) ?_
  have hw : wf h3 := by rw [eh3]; exact hw.put np_57_5
  change am_R _ _ _ _ _ _ (am_put g1 57 5 r2) _
  rw [← eh3]
  refine am_R.next ((hp 32).trans rfl) rfl ?_
  refine am_R.next ((hp 33).trans rfl) rfl ?_
  refine r_cv (bs := []) (st' := [.inr (.inr ((57 : Nat) : Int))]) ((hp 34).trans rfl) (pl_o hp1 hw) rfl rfl (Nat.le_of_ble_eq_true rfl) (Nat.le_of_ble_eq_true rfl) (am_R.post H (fun v g4 hq => ?_))
  obtain ⟨r5, rfl, hw, H⟩ := hq
  change am_R _ _ _ _ _ [.inl r5, .inr (.inr ((57 : Nat) : Int))] _ _
  obtain ⟨h6, eh6⟩ : ∃ z : am_H, z = am_put g4 57 6 r5 := ⟨_, rfl⟩
  have H := H h6 eh6
  refine r_putI ((hp 37).trans rfl) (hw.o (i := 57) (by decide) rfl) ?_
  have hw : wf h6 := by rw [eh6]; exact hw.put np_57_6
  change am_R _ _ _ _ _ _ (am_put g4 57 6 r5) _
  rw [← eh6]
  refine am_R.next ((hp 40).trans rfl) rfl ?_
  refine am_R.next ((hp 41).trans rfl) rfl ?_
  obtain ⟨h7, eh7⟩ : ∃ z : am_H, z = am_put h6 57 4 (-1) := ⟨_, rfl⟩
  have H := H h7 eh7
  refine r_putI ((hp 42).trans rfl) (hw.o (i := 57) (by decide) rfl) ?_
  have hw : wf h7 := by rw [eh7]; exact hw.put np_57_4
  change am_R _ _ _ _ _ _ (am_put h6 57 4 (-1)) _
  rw [← eh7]
  refine am_R.next ((hp 45).trans rfl) rfl ?_
  refine am_R.next ((hp 46).trans rfl) rfl ?_
  refine r_cv (bs := [.inr (.inr ((p1 : Nat) : Int))]) (st' := []) ((hp 47).trans rfl) (hw.o (i := 57) (by decide) rfl) rfl rfl (Nat.le_of_ble_eq_true rfl) (Nat.le_of_ble_eq_true rfl) (am_R.post H (fun v g8 hq => ?_))
  obtain ⟨rfl, hw, H⟩ := hq
  change am_R _ _ _ _ _ [] _ _
  refine am_R.next ((hp 50).trans rfl) rfl ?_
  refine am_R.next (lv' := [some (.inr (.inr ((57 : Nat) : Int))), some (.inr (.inr ((p1 : Nat) : Int))), some (.inl 1), none, none]) ((hp 51).trans rfl) rfl ?_
  refine am_R.next ((hp 52).trans rfl) rfl ?_
  refine am_R.next (lv' := [some (.inr (.inr ((57 : Nat) : Int))), some (.inr (.inr ((p1 : Nat) : Int))), some (.inl 1), some (.inl 0), none]) ((hp 53).trans rfl) rfl ?_
  exact H
theorem w_Placer_place_54 {scr : Nat × (Nat → Int)} {d : Nat} {h : am_H} {Q : Option am_V → am_H → Prop} {x2 x3 : Int} {p1 : Nat} (hp1 : p1 ∈ PL) (hs : am_sc scr) (hw : wf h) (H : (¬ (x3 < 720) → (Q none h)) ∧ (x3 < 720 → ((x2 = 0 → (Q none h)) ∧ (¬ (x2 = 0) → (((h.2.2.2 57 4) = 0 → (Q none h)) ∧ (¬ ((h.2.2.2 57 4) = 0) → (am_R (am_prog scr) d f_Play_takeFrom 0 [some (.inr (.inr ((58 : Nat) : Int))), some (.inr (.inr ((p1 : Nat) : Int)))] [] h (fun v g1 => v = none ∧ wf g1 ∧ (am_isO g1 (g1.2.2.2 p1 0) 1 ∧ ((0 ≤ ((61 : Nat) : Int) ∧ (g1.2.2.1 61).1 = 1) ∧ ((0 ≤ ((59 : Nat) : Int) ∧ (g1.2.2.1 59).1 = 1) ∧ (((61 : Nat) : Int) ≠ ((59 : Nat) : Int) ∧ ((0 ≤ (g1.2.2.2 ((g1.2.2.2 p1 0).toNat) 4 : Int) ∧ 0 ≤ (0 : Int) ∧ 0 ≤ (0 : Int)) ∧ ((0 : Int) + (g1.2.2.2 ((g1.2.2.2 p1 0).toNat) 4) ≤ ((g1.2.2.1 61).2 : Int) ∧ ((0 : Int) + (g1.2.2.2 ((g1.2.2.2 p1 0).toNat) 4) ≤ ((g1.2.2.1 59).2 : Int) ∧ (∀ h9 : am_H, h9 = am_cpy g1 61 59 0 0 ((g1.2.2.2 ((g1.2.2.2 p1 0).toNat) 4).toNat) → ((¬ ((h9.2.2.2 57 4) = (-1)) → (am_R (am_prog scr) d f_Stage_endsIn 0 [some (.inr (.inr ((9 : Nat) : Int))), some (.inr (.inr ((58 : Nat) : Int))), some (.inl (am_w ((h9.2.2.2 57 4) - 1))), none, none] [] h9 (fun v g10 => ∃ r11 : Int, v = some (.inl r11) ∧ wf g10 ∧ ((r11 = (-1) → (am_R (am_prog scr) (d + 1) f_Placer_place 168 [some (.inr (.inr ((57 : Nat) : Int))), some (.inr (.inr ((p1 : Nat) : Int))), some (.inl x2), some (.inl x3), some (.inl r11)] [] g10 Q)) ∧ (¬ (r11 = (-1)) → (∀ h12 : am_H, h12 = am_put g10 57 4 r11 → (am_isO h12 (h12.2.2.2 p1 0) 1 ∧ ((0 ≤ ((61 : Nat) : Int) ∧ (h12.2.2.1 61).1 = 1) ∧ ((0 ≤ ((62 : Nat) : Int) ∧ (h12.2.2.1 62).1 = 1) ∧ (((61 : Nat) : Int) ≠ ((62 : Nat) : Int) ∧ ((0 ≤ (h12.2.2.2 ((h12.2.2.2 p1 0).toNat) 4 : Int) ∧ 0 ≤ (0 : Int) ∧ 0 ≤ (0 : Int)) ∧ ((0 : Int) + (h12.2.2.2 ((h12.2.2.2 p1 0).toNat) 4) ≤ ((h12.2.2.1 61).2 : Int) ∧ ((0 : Int) + (h12.2.2.2 ((h12.2.2.2 p1 0).toNat) 4) ≤ ((h12.2.2.1 62).2 : Int) ∧ (∀ h20 : am_H, h20 = am_cpy h12 61 62 0 0 ((h12.2.2.2 ((h12.2.2.2 p1 0).toNat) 4).toNat) → (am_R (am_prog scr) (d + 1) f_Placer_place 168 [some (.inr (.inr ((57 : Nat) : Int))), some (.inr (.inr ((p1 : Nat) : Int))), some (.inl x2), some (.inl x3), some (.inl r11)] [] h20 Q))))))))))))))) ∧ ((h9.2.2.2 57 4) = (-1) → (am_R (am_prog scr) d f_Stage_endsIn 0 [some (.inr (.inr ((9 : Nat) : Int))), some (.inr (.inr ((58 : Nat) : Int))), some (.inl 180), none, none] [] h9 (fun v g22 => ∃ r23 : Int, v = some (.inl r23) ∧ wf g22 ∧ ((r23 = (-1) → (am_R (am_prog scr) (d + 1) f_Placer_place 168 [some (.inr (.inr ((57 : Nat) : Int))), some (.inr (.inr ((p1 : Nat) : Int))), some (.inl x2), some (.inl x3), some (.inl r23)] [] g22 Q)) ∧ (¬ (r23 = (-1)) → (∀ h24 : am_H, h24 = am_put g22 57 4 r23 → (am_isO h24 (h24.2.2.2 p1 0) 1 ∧ ((0 ≤ ((61 : Nat) : Int) ∧ (h24.2.2.1 61).1 = 1) ∧ ((0 ≤ ((62 : Nat) : Int) ∧ (h24.2.2.1 62).1 = 1) ∧ (((61 : Nat) : Int) ≠ ((62 : Nat) : Int) ∧ ((0 ≤ (h24.2.2.2 ((h24.2.2.2 p1 0).toNat) 4 : Int) ∧ 0 ≤ (0 : Int) ∧ 0 ≤ (0 : Int)) ∧ ((0 : Int) + (h24.2.2.2 ((h24.2.2.2 p1 0).toNat) 4) ≤ ((h24.2.2.1 61).2 : Int) ∧ ((0 : Int) + (h24.2.2.2 ((h24.2.2.2 p1 0).toNat) 4) ≤ ((h24.2.2.1 62).2 : Int) ∧ (∀ h32 : am_H, h32 = am_cpy h24 61 62 0 0 ((h24.2.2.2 ((h24.2.2.2 p1 0).toNat) 4).toNat) → (am_R (am_prog scr) (d + 1) f_Placer_place 168 [some (.inr (.inr ((57 : Nat) : Int))), some (.inr (.inr ((p1 : Nat) : Int))), some (.inl x2), some (.inl x3), some (.inl r23)] [] h32 Q)))))))))))))))))))))))))))))))) : am_R (am_prog scr) (d + 1) f_Placer_place 54 [some (.inr (.inr ((57 : Nat) : Int))), some (.inr (.inr ((p1 : Nat) : Int))), some (.inl x2), some (.inl x3), none] [] h Q := by
  have hp : ∀ k, (am_prog scr).1 f_Placer_place k = c_Placer_place k := fun _ => rfl
  refine am_R.next ((hp 54).trans rfl) rfl ?_
  refine am_R.next ((hp 55).trans rfl) rfl ?_
  refine r_ic ((hp 58).trans rfl) (fun c37 => ?_) (fun c37 => ?_)
  · have H := H.1 c37
    exact am_R.ret ((hp 186).trans rfl) rfl H
  · have H := H.2 (Decidable.not_not.mp c37)
    refine am_R.next ((hp 61).trans rfl) rfl ?_
    refine r_if ((hp 62).trans rfl) (fun c36 => ?_) (fun c36 => ?_)
    · have H := H.1 c36
      exact am_R.ret ((hp 186).trans rfl) rfl H
    · have H := H.2 c36
      refine am_R.next ((hp 65).trans rfl) rfl ?_
      refine r_getI ((hp 66).trans rfl) (hw.o (i := 57) (by decide) rfl) ?_
      refine r_if ((hp 69).trans rfl) (fun c35 => ?_) (fun c35 => ?_)
      · have H := H.1 c35
        exact am_R.ret ((hp 186).trans rfl) rfl H
      · have H := H.2 c35
        refine am_R.next ((hp 72).trans rfl) rfl ?_
        refine r_getR ((hp 73).trans rfl) (hw.o (i := 57) (by decide) rfl) (hw.r wr_57_1) ?_
        refine am_R.next ((hp 76).trans rfl) rfl ?_
        refine r_cv (bs := [.inr (.inr ((p1 : Nat) : Int))]) (st' := []) ((hp 77).trans rfl) (hw.o (i := 58) (by decide) rfl) rfl rfl (Nat.le_of_ble_eq_true rfl) (Nat.le_of_ble_eq_true rfl) (am_R.post H (fun v g1 hq => ?_))
        obtain ⟨rfl, hw, H⟩ := hq
        change am_R _ _ _ _ _ [] _ _
        refine am_R.next ((hp 80).trans rfl) rfl ?_
        refine r_getR ((hp 81).trans rfl) (hw.o (i := 57) (by decide) rfl) (hw.r wr_57_2) ?_
        refine am_R.next ((hp 84).trans rfl) rfl ?_
        refine am_R.next ((hp 85).trans rfl) rfl ?_
        refine r_getR ((hp 86).trans rfl) (hw.o (i := 57) (by decide) rfl) (hw.r wr_57_1) ?_
        refine r_getR ((hp 89).trans rfl) (hw.o (i := 58) (by decide) rfl) (hw.r wr_58_1) ?_
        refine am_R.next ((hp 92).trans rfl) rfl ?_
        refine am_R.next ((hp 93).trans rfl) rfl ?_
        refine r_getR ((hp 94).trans rfl) (pl_o hp1 hw) rfl ?_
        obtain ⟨c2, H⟩ := H
        refine r_getI ((hp 97).trans rfl) c2 ?_
        obtain ⟨c3, c4, c5, c6, c7, c8, H⟩ := H
        obtain ⟨h9, eh9⟩ : ∃ z : am_H, z = am_cpy g1 61 59 0 0 ((g1.2.2.2 ((g1.2.2.2 p1 0).toNat) 4).toNat) := ⟨_, rfl⟩
        have H := H h9 eh9
        refine r_acpy ((hp 100).trans rfl) (Or.inr c3) c4 c5 c6 c7 c8 (Nat.le_of_ble_eq_true rfl) ?_
        have hw : wf h9 := by rw [eh9]; exact hw.cpy na_59
        change am_R _ _ _ _ _ _ (am_cpy g1 61 59 0 0 ((g1.2.2.2 ((g1.2.2.2 p1 0).toNat) 4).toNat)) _
        rw [← eh9]
        refine am_R.next ((hp 103).trans rfl) rfl ?_
        refine r_getR ((hp 104).trans rfl) (hw.o (i := 57) (by decide) rfl) (hw.r wr_57_0) ?_
        refine am_R.next ((hp 107).trans rfl) rfl ?_
        refine r_getR ((hp 108).trans rfl) (hw.o (i := 57) (by decide) rfl) (hw.r wr_57_1) ?_
        refine am_R.next ((hp 111).trans rfl) rfl ?_
        refine r_getI ((hp 112).trans rfl) (hw.o (i := 57) (by decide) rfl) ?_
        refine am_R.next ((hp 115).trans rfl) rfl ?_
        refine r_ic ((hp 116).trans rfl) (fun c34 => ?_) (fun c34 => ?_)
        · have H := H.1 c34
          refine am_R.next ((hp 125).trans rfl) rfl ?_
          refine r_getI ((hp 126).trans rfl) (hw.o (i := 57) (by decide) rfl) ?_
          refine am_R.next ((hp 129).trans rfl) rfl ?_
          refine am_R.next ((hp 130).trans rfl) rfl ?_
          refine r_cv (bs := [.inr (.inr ((58 : Nat) : Int)), .inl (am_w ((h9.2.2.2 57 4) - 1))]) (st' := []) ((hp 131).trans rfl) (hw.o (i := 9) (by decide) rfl) rfl rfl (Nat.le_of_ble_eq_true rfl) (Nat.le_of_ble_eq_true rfl) (am_R.post H (fun v g10 hq => ?_))
          obtain ⟨r11, rfl, hw, H⟩ := hq
          change am_R _ _ _ _ _ [.inl r11] _ _
          refine am_R.next (lv' := [some (.inr (.inr ((57 : Nat) : Int))), some (.inr (.inr ((p1 : Nat) : Int))), some (.inl x2), some (.inl x3), some (.inl r11)]) ((hp 134).trans rfl) rfl ?_
          refine am_R.next ((hp 136).trans rfl) rfl ?_
          refine am_R.next ((hp 138).trans rfl) rfl ?_
          refine r_ic ((hp 139).trans rfl) (fun c21 => ?_) (fun c21 => ?_)
          · have H := H.1 c21
            exact H
          · have H := H.2 c21
            refine am_R.next ((hp 142).trans rfl) rfl ?_
            refine am_R.next ((hp 143).trans rfl) rfl ?_
            obtain ⟨h12, eh12⟩ : ∃ z : am_H, z = am_put g10 57 4 r11 := ⟨_, rfl⟩
            have H := H h12 eh12
            refine r_putI ((hp 145).trans rfl) (hw.o (i := 57) (by decide) rfl) ?_
            have hw : wf h12 := by rw [eh12]; exact hw.put np_57_4
            change am_R _ _ _ _ _ _ (am_put g10 57 4 r11) _
            rw [← eh12]
            refine am_R.next ((hp 148).trans rfl) rfl ?_
            refine r_getR ((hp 149).trans rfl) (hw.o (i := 57) (by decide) rfl) (hw.r wr_57_2) ?_
            refine am_R.next ((hp 152).trans rfl) rfl ?_
            refine am_R.next ((hp 153).trans rfl) rfl ?_
            refine r_getR ((hp 154).trans rfl) (hw.o (i := 57) (by decide) rfl) (hw.r wr_57_3) ?_
            refine am_R.next ((hp 157).trans rfl) rfl ?_
            refine am_R.next ((hp 158).trans rfl) rfl ?_
            refine r_getR ((hp 159).trans rfl) (pl_o hp1 hw) rfl ?_
            obtain ⟨c13, H⟩ := H
            refine r_getI ((hp 162).trans rfl) c13 ?_
            obtain ⟨c14, c15, c16, c17, c18, c19, H⟩ := H
            obtain ⟨h20, eh20⟩ : ∃ z : am_H, z = am_cpy h12 61 62 0 0 ((h12.2.2.2 ((h12.2.2.2 p1 0).toNat) 4).toNat) := ⟨_, rfl⟩
            have H := H h20 eh20
            refine r_acpy ((hp 165).trans rfl) (Or.inr c14) c15 c16 c17 c18 c19 (Nat.le_of_ble_eq_true rfl) ?_
            have hw : wf h20 := by rw [eh20]; exact hw.cpy na_62
            change am_R _ _ _ _ _ _ (am_cpy h12 61 62 0 0 ((h12.2.2.2 ((h12.2.2.2 p1 0).toNat) 4).toNat)) _
            rw [← eh20]
            exact H
        · have H := H.2 (Decidable.not_not.mp c34)
          refine am_R.next ((hp 119).trans rfl) rfl ?_
          refine am_R.next ((hp 122).trans rfl) rfl ?_
          refine r_cv (bs := [.inr (.inr ((58 : Nat) : Int)), .inl 180]) (st' := []) ((hp 131).trans rfl) (hw.o (i := 9) (by decide) rfl) rfl rfl (Nat.le_of_ble_eq_true rfl) (Nat.le_of_ble_eq_true rfl) (am_R.post H (fun v g22 hq => ?_))
          obtain ⟨r23, rfl, hw, H⟩ := hq
          change am_R _ _ _ _ _ [.inl r23] _ _
          refine am_R.next (lv' := [some (.inr (.inr ((57 : Nat) : Int))), some (.inr (.inr ((p1 : Nat) : Int))), some (.inl x2), some (.inl x3), some (.inl r23)]) ((hp 134).trans rfl) rfl ?_
          refine am_R.next ((hp 136).trans rfl) rfl ?_
          refine am_R.next ((hp 138).trans rfl) rfl ?_
          refine r_ic ((hp 139).trans rfl) (fun c33 => ?_) (fun c33 => ?_)
          · have H := H.1 c33
            exact H
          · have H := H.2 c33
            refine am_R.next ((hp 142).trans rfl) rfl ?_
            refine am_R.next ((hp 143).trans rfl) rfl ?_
            obtain ⟨h24, eh24⟩ : ∃ z : am_H, z = am_put g22 57 4 r23 := ⟨_, rfl⟩
            have H := H h24 eh24
            refine r_putI ((hp 145).trans rfl) (hw.o (i := 57) (by decide) rfl) ?_
            have hw : wf h24 := by rw [eh24]; exact hw.put np_57_4
            change am_R _ _ _ _ _ _ (am_put g22 57 4 r23) _
            rw [← eh24]
            refine am_R.next ((hp 148).trans rfl) rfl ?_
            refine r_getR ((hp 149).trans rfl) (hw.o (i := 57) (by decide) rfl) (hw.r wr_57_2) ?_
            refine am_R.next ((hp 152).trans rfl) rfl ?_
            refine am_R.next ((hp 153).trans rfl) rfl ?_
            refine r_getR ((hp 154).trans rfl) (hw.o (i := 57) (by decide) rfl) (hw.r wr_57_3) ?_
            refine am_R.next ((hp 157).trans rfl) rfl ?_
            refine am_R.next ((hp 158).trans rfl) rfl ?_
            refine r_getR ((hp 159).trans rfl) (pl_o hp1 hw) rfl ?_
            obtain ⟨c25, H⟩ := H
            refine r_getI ((hp 162).trans rfl) c25 ?_
            obtain ⟨c26, c27, c28, c29, c30, c31, H⟩ := H
            obtain ⟨h32, eh32⟩ : ∃ z : am_H, z = am_cpy h24 61 62 0 0 ((h24.2.2.2 ((h24.2.2.2 p1 0).toNat) 4).toNat) := ⟨_, rfl⟩
            have H := H h32 eh32
            refine r_acpy ((hp 165).trans rfl) (Or.inr c26) c27 c28 c29 c30 c31 (Nat.le_of_ble_eq_true rfl) ?_
            have hw : wf h32 := by rw [eh32]; exact hw.cpy na_62
            change am_R _ _ _ _ _ _ (am_cpy h24 61 62 0 0 ((h24.2.2.2 ((h24.2.2.2 p1 0).toNat) 4).toNat)) _
            rw [← eh32]
            exact H
theorem w_Placer_place_168 {scr : Nat × (Nat → Int)} {d : Nat} {h : am_H} {Q : Option am_V → am_H → Prop} {x2 x3 x4 : Int} {p1 : Nat} (hp1 : p1 ∈ PL) (hs : am_sc scr) (hw : wf h) (H : am_isO h (h.2.2.2 p1 0) 1 ∧ (am_R (am_prog scr) d f_Placer_nextOrder 0 [some (.inr (.inr ((57 : Nat) : Int))), some (.inl (h.2.2.2 ((h.2.2.2 p1 0).toNat) 4)), none, none, none, none] [] h (fun v g2 => ∃ r3 : Int, v = some (.inl r3) ∧ wf g2 ∧ (∀ y4 : Int, y4 = am_w (x3 + 1) → (am_R (am_prog scr) (d + 1) f_Placer_place 54 [some (.inr (.inr ((57 : Nat) : Int))), some (.inr (.inr ((p1 : Nat) : Int))), some (.inl r3), some (.inl y4), none] [] g2 Q))))) : am_R (am_prog scr) (d + 1) f_Placer_place 168 [some (.inr (.inr ((57 : Nat) : Int))), some (.inr (.inr ((p1 : Nat) : Int))), some (.inl x2), some (.inl x3), some (.inl x4)] [] h Q := by
  have hp : ∀ k, (am_prog scr).1 f_Placer_place k = c_Placer_place k := fun _ => rfl
  refine am_R.next ((hp 168).trans rfl) rfl ?_
  refine am_R.next ((hp 169).trans rfl) rfl ?_
  refine r_getR ((hp 170).trans rfl) (pl_o hp1 hw) rfl ?_
  obtain ⟨c1, H⟩ := H
  refine r_getI ((hp 173).trans rfl) c1 ?_
  refine r_cv (bs := [.inl (h.2.2.2 ((h.2.2.2 p1 0).toNat) 4)]) (st' := []) ((hp 176).trans rfl) (hw.o (i := 57) (by decide) rfl) rfl rfl (Nat.le_of_ble_eq_true rfl) (Nat.le_of_ble_eq_true rfl) (am_R.post H (fun v g2 hq => ?_))
  obtain ⟨r3, rfl, hw, H⟩ := hq
  change am_R _ _ _ _ _ [.inl r3] _ _
  refine am_R.next (lv' := [some (.inr (.inr ((57 : Nat) : Int))), some (.inr (.inr ((p1 : Nat) : Int))), some (.inl r3), some (.inl x3), some (.inl x4)]) ((hp 179).trans rfl) rfl ?_
  obtain ⟨y4, ey4⟩ : ∃ z : Int, z = am_w (x3 + 1) := ⟨_, rfl⟩
  have H := H y4 ey4
  refine am_R.next (lv' := [some (.inr (.inr ((57 : Nat) : Int))), some (.inr (.inr ((p1 : Nat) : Int))), some (.inl r3), some (.inl y4), some (.inl x4)]) (st' := []) (h' := g2) (pc' := 183) ((hp 180).trans rfl) (by rw [ey4]; rfl) ?_
  refine am_R.next ((hp 183).trans rfl) rfl ?_
  exact r_le hs in_205 (le_k (le_k (le_k (le_k (le_d le_n))))) H
theorem w_Placer_sortBeds_0 {scr : Nat × (Nat → Int)} {d : Nat} {h : am_H} {Q : Option am_V → am_H → Prop} {p1 : Nat} (hp1 : p1 ∈ PL) (hs : am_sc scr) (hw : wf h) (H : am_R (am_prog scr) d f_Placer_sortBeds 4 [some (.inr (.inr ((57 : Nat) : Int))), some (.inr (.inr ((p1 : Nat) : Int))), some (.inl 0), some (.inl 0), none] [] h Q) : am_R (am_prog scr) d f_Placer_sortBeds 0 [some (.inr (.inr ((57 : Nat) : Int))), some (.inr (.inr ((p1 : Nat) : Int))), none, none, none] [] h Q := by
  have hp : ∀ k, (am_prog scr).1 f_Placer_sortBeds k = c_Placer_sortBeds k := fun _ => rfl
  refine am_R.next ((hp 0).trans rfl) rfl ?_
  refine am_R.next (lv' := [some (.inr (.inr ((57 : Nat) : Int))), some (.inr (.inr ((p1 : Nat) : Int))), some (.inl 0), none, none]) ((hp 1).trans rfl) rfl ?_
  refine am_R.next ((hp 2).trans rfl) rfl ?_
  refine am_R.next (lv' := [some (.inr (.inr ((57 : Nat) : Int))), some (.inr (.inr ((p1 : Nat) : Int))), some (.inl 0), some (.inl 0), none]) ((hp 3).trans rfl) rfl ?_
  exact H
theorem w_Placer_sortBeds_4 {scr : Nat × (Nat → Int)} {d : Nat} {h : am_H} {Q : Option am_V → am_H → Prop} {x2 x3 : Int} {p1 : Nat} (hp1 : p1 ∈ PL) (hs : am_sc scr) (hw : wf h) (H : am_isO h (h.2.2.2 p1 0) 1 ∧ ((¬ (x3 < (h.2.2.2 ((h.2.2.2 p1 0).toNat) 1)) → (Q none h)) ∧ (x3 < (h.2.2.2 ((h.2.2.2 p1 0).toNat) 1) → (am_R (am_prog scr) d f_Placer_sortBeds 18 [some (.inr (.inr ((57 : Nat) : Int))), some (.inr (.inr ((p1 : Nat) : Int))), some (.inl x2), some (.inl x3), some (.inl 0)] [] h Q)))) : am_R (am_prog scr) d f_Placer_sortBeds 4 [some (.inr (.inr ((57 : Nat) : Int))), some (.inr (.inr ((p1 : Nat) : Int))), some (.inl x2), some (.inl x3), none] [] h Q := by
  have hp : ∀ k, (am_prog scr).1 f_Placer_sortBeds k = c_Placer_sortBeds k := fun _ => rfl
  refine am_R.next ((hp 4).trans rfl) rfl ?_
  refine am_R.next ((hp 5).trans rfl) rfl ?_
  refine r_getR ((hp 6).trans rfl) (pl_o hp1 hw) rfl ?_
  obtain ⟨c1, H⟩ := H
  refine r_getI ((hp 9).trans rfl) c1 ?_
  refine r_ic ((hp 12).trans rfl) (fun c2 => ?_) (fun c2 => ?_)
  · have H := H.1 c2
    exact am_R.ret ((hp 72).trans rfl) rfl H
  · have H := H.2 (Decidable.not_not.mp c2)
    refine am_R.next ((hp 15).trans rfl) rfl ?_
    refine am_R.next (lv' := [some (.inr (.inr ((57 : Nat) : Int))), some (.inr (.inr ((p1 : Nat) : Int))), some (.inl x2), some (.inl x3), some (.inl 0)]) ((hp 16).trans rfl) rfl ?_
    exact H
theorem w_Placer_sortBeds_18 {scr : Nat × (Nat → Int)} {d : Nat} {h : am_H} {Q : Option am_V → am_H → Prop} {x2 x3 x4 : Int} {p1 : Nat} (hp1 : p1 ∈ PL) (hs : am_sc scr) (hw : wf h) (H : am_isO h (h.2.2.2 p1 0) 1 ∧ ((¬ (x4 < (h.2.2.2 ((h.2.2.2 p1 0).toNat) 4)) → (∀ y2 : Int, y2 = am_w (x3 + 1) → (am_R (am_prog scr) d f_Placer_sortBeds 4 [some (.inr (.inr ((57 : Nat) : Int))), some (.inr (.inr ((p1 : Nat) : Int))), some (.inl x2), some (.inl y2), none] [] h Q))) ∧ (x4 < (h.2.2.2 ((h.2.2.2 p1 0).toNat) 4) → ((0 ≤ x4 ∧ x4 < 6) ∧ ((¬ ((h.2.2.2 (p1 + 1) x4.toNat) = x3) → (∀ y4 : Int, y4 = am_w (x4 + 1) → (am_R (am_prog scr) d f_Placer_sortBeds 18 [some (.inr (.inr ((57 : Nat) : Int))), some (.inr (.inr ((p1 : Nat) : Int))), some (.inl x2), some (.inl x3), some (.inl y4)] [] h Q))) ∧ ((h.2.2.2 (p1 + 1) x4.toNat) = x3 → ((¬ (x2 < 6) → (∀ y5 : Int, y5 = am_w (x4 + 1) → (am_R (am_prog scr) d f_Placer_sortBeds 18 [some (.inr (.inr ((57 : Nat) : Int))), some (.inr (.inr ((p1 : Nat) : Int))), some (.inl x2), some (.inl x3), some (.inl y5)] [] h Q))) ∧ (x2 < 6 → (((0 ≤ x2 ∧ x2 < 6)) ∧ (∀ h7 : am_H, h7 = am_put h 61 x2.toNat x3 → (∀ y8 : Int, y8 = am_w (x2 + 1) → (∀ y9 : Int, y9 = am_w (x4 + 1) → (am_R (am_prog scr) d f_Placer_sortBeds 18 [some (.inr (.inr ((57 : Nat) : Int))), some (.inr (.inr ((p1 : Nat) : Int))), some (.inl y8), some (.inl x3), some (.inl y9)] [] h7 Q))))))))))))) : am_R (am_prog scr) d f_Placer_sortBeds 18 [some (.inr (.inr ((57 : Nat) : Int))), some (.inr (.inr ((p1 : Nat) : Int))), some (.inl x2), some (.inl x3), some (.inl x4)] [] h Q := by
  have hp : ∀ k, (am_prog scr).1 f_Placer_sortBeds k = c_Placer_sortBeds k := fun _ => rfl
  refine am_R.next ((hp 18).trans rfl) rfl ?_
  refine am_R.next ((hp 20).trans rfl) rfl ?_
  refine r_getR ((hp 21).trans rfl) (pl_o hp1 hw) rfl ?_
  obtain ⟨c1, H⟩ := H
  refine r_getI ((hp 24).trans rfl) c1 ?_
  refine r_ic ((hp 27).trans rfl) (fun c12 => ?_) (fun c12 => ?_)
  · have H := H.1 c12
    obtain ⟨y2, ey2⟩ : ∃ z : Int, z = am_w (x3 + 1) := ⟨_, rfl⟩
    have H := H y2 ey2
    refine am_R.next (lv' := [some (.inr (.inr ((57 : Nat) : Int))), some (.inr (.inr ((p1 : Nat) : Int))), some (.inl x2), some (.inl y2), some (.inl x4)]) (st' := []) (h' := h) (pc' := 69) ((hp 66).trans rfl) (by rw [ey2]; rfl) ?_
    refine am_R.next ((hp 69).trans rfl) rfl ?_
    exact r_le hs in_206 (le_k (le_k (le_k (le_k (le_d le_n))))) H
  · have H := H.2 (Decidable.not_not.mp c12)
    refine am_R.next ((hp 30).trans rfl) rfl ?_
    refine r_getR ((hp 31).trans rfl) (pl_o hp1 hw) (pl_b hp1 hw) ?_
    refine am_R.next ((hp 34).trans rfl) rfl ?_
    obtain ⟨c3, H⟩ := H
    refine r_iald ((hp 36).trans rfl) (pl_ba hp1 hw c3.1 c3.2) ?_
    refine am_R.next ((hp 37).trans rfl) rfl ?_
    refine r_ic ((hp 38).trans rfl) (fun c11 => ?_) (fun c11 => ?_)
    · have H := H.1 c11
      obtain ⟨y4, ey4⟩ : ∃ z : Int, z = am_w (x4 + 1) := ⟨_, rfl⟩
      have H := H y4 ey4
      refine am_R.next (lv' := [some (.inr (.inr ((57 : Nat) : Int))), some (.inr (.inr ((p1 : Nat) : Int))), some (.inl x2), some (.inl x3), some (.inl y4)]) (st' := []) (h' := h) (pc' := 63) ((hp 60).trans rfl) (by rw [ey4]; rfl) ?_
      refine am_R.next ((hp 63).trans rfl) rfl ?_
      exact H
    · have H := H.2 (Decidable.not_not.mp c11)
      refine am_R.next ((hp 41).trans rfl) rfl ?_
      refine am_R.next ((hp 42).trans rfl) rfl ?_
      refine r_getR ((hp 43).trans rfl) (hw.o (i := 57) (by decide) rfl) (hw.r wr_57_2) ?_
      refine r_alen (n := 6) ((hp 46).trans rfl) (hw.l (i := 61) (by decide) rfl (by decide)) (congrArg Prod.snd (hw.k (i := 61) (x := (1, 6)) (by decide) rfl)) ?_
      refine r_ic ((hp 47).trans rfl) (fun c10 => ?_) (fun c10 => ?_)
      · have H := H.1 c10
        obtain ⟨y5, ey5⟩ : ∃ z : Int, z = am_w (x4 + 1) := ⟨_, rfl⟩
        have H := H y5 ey5
        refine am_R.next (lv' := [some (.inr (.inr ((57 : Nat) : Int))), some (.inr (.inr ((p1 : Nat) : Int))), some (.inl x2), some (.inl x3), some (.inl y5)]) (st' := []) (h' := h) (pc' := 63) ((hp 60).trans rfl) (by rw [ey5]; rfl) ?_
        refine am_R.next ((hp 63).trans rfl) rfl ?_
        exact H
      · have H := H.2 (Decidable.not_not.mp c10)
        refine am_R.next ((hp 50).trans rfl) rfl ?_
        refine r_getR ((hp 51).trans rfl) (hw.o (i := 57) (by decide) rfl) (hw.r wr_57_2) ?_
        refine am_R.next ((hp 54).trans rfl) rfl ?_
        refine am_R.next ((hp 55).trans rfl) rfl ?_
        obtain ⟨c6, H⟩ := H
        obtain ⟨h7, eh7⟩ : ∃ z : am_H, z = am_put h 61 x2.toNat x3 := ⟨_, rfl⟩
        have H := H h7 eh7
        refine r_iast ((hp 56).trans rfl) (hw.a (i := 61) (by decide) rfl c6.1 c6.2) ?_
        have hw : wf h7 := by rw [eh7]; exact hw.pa na_61
        change am_R _ _ _ _ _ _ (am_put h 61 x2.toNat x3) _
        rw [← eh7]
        obtain ⟨y8, ey8⟩ : ∃ z : Int, z = am_w (x2 + 1) := ⟨_, rfl⟩
        have H := H y8 ey8
        refine am_R.next (lv' := [some (.inr (.inr ((57 : Nat) : Int))), some (.inr (.inr ((p1 : Nat) : Int))), some (.inl y8), some (.inl x3), some (.inl x4)]) (st' := []) (h' := h7) (pc' := 60) ((hp 57).trans rfl) (by rw [ey8]; rfl) ?_
        obtain ⟨y9, ey9⟩ : ∃ z : Int, z = am_w (x4 + 1) := ⟨_, rfl⟩
        have H := H y9 ey9
        refine am_R.next (lv' := [some (.inr (.inr ((57 : Nat) : Int))), some (.inr (.inr ((p1 : Nat) : Int))), some (.inl y8), some (.inl x3), some (.inl y9)]) (st' := []) (h' := h7) (pc' := 63) ((hp 60).trans rfl) (by rw [ey9]; rfl) ?_
        refine am_R.next ((hp 63).trans rfl) rfl ?_
        exact H
theorem w_Placer_nextOrder_0 {scr : Nat × (Nat → Int)} {d : Nat} {h : am_H} {Q : Option am_V → am_H → Prop} {x1 : Int} (hs : am_sc scr) (hw : wf h) (H : ∀ y1 : Int, y1 = am_w (x1 - 2) → (am_R (am_prog scr) (d + 1) f_Placer_nextOrder 4 [some (.inr (.inr ((57 : Nat) : Int))), some (.inl x1), some (.inl y1), none, none, none] [] h Q)) : am_R (am_prog scr) (d + 1) f_Placer_nextOrder 0 [some (.inr (.inr ((57 : Nat) : Int))), some (.inl x1), none, none, none, none] [] h Q := by
  have hp : ∀ k, (am_prog scr).1 f_Placer_nextOrder k = c_Placer_nextOrder k := fun _ => rfl
  refine am_R.next ((hp 0).trans rfl) rfl ?_
  refine am_R.next ((hp 1).trans rfl) rfl ?_
  refine am_R.next ((hp 2).trans rfl) rfl ?_
  obtain ⟨y1, ey1⟩ : ∃ z : Int, z = am_w (x1 - 2) := ⟨_, rfl⟩
  have H := H y1 ey1
  refine am_R.next (lv' := [some (.inr (.inr ((57 : Nat) : Int))), some (.inl x1), some (.inl y1), none, none, none]) (st' := []) (h' := h) (pc' := 4) ((hp 3).trans rfl) (by rw [ey1]; rfl) ?_
  exact H
theorem w_Placer_nextOrder_4 {scr : Nat × (Nat → Int)} {d : Nat} {h : am_H} {Q : Option am_V → am_H → Prop} {x1 x2 : Int} (hs : am_sc scr) (hw : wf h) (H : (x2 < 0 → ((¬ (x2 < 0) → (∀ y1 : Int, y1 = am_w (x1 - 1) → (am_R (am_prog scr) (d + 1) f_Placer_nextOrder 41 [some (.inr (.inr ((57 : Nat) : Int))), some (.inl x1), some (.inl x2), some (.inl y1), none, none] [] h Q))) ∧ (x2 < 0 → (Q (some (.inl 0)) h)))) ∧ (¬ (x2 < 0) → ((0 ≤ x2 ∧ x2 < 6) ∧ ((0 ≤ (am_w (x2 + 1)) ∧ (am_w (x2 + 1)) < 6) ∧ (((h.2.2.2 61 x2.toNat) ≤ (h.2.2.2 61 ((am_w (x2 + 1)).toNat)) → ((¬ (x2 < 0) → (∀ y5 : Int, y5 = am_w (x1 - 1) → (am_R (am_prog scr) (d + 1) f_Placer_nextOrder 41 [some (.inr (.inr ((57 : Nat) : Int))), some (.inl x1), some (.inl x2), some (.inl y5), none, none] [] h Q))) ∧ (x2 < 0 → (Q (some (.inl 0)) h)))) ∧ (¬ ((h.2.2.2 61 x2.toNat) ≤ (h.2.2.2 61 ((am_w (x2 + 1)).toNat))) → (∀ y7 : Int, y7 = am_w (x2 + (-1)) → (am_R (am_prog scr) (d + 1) f_Placer_nextOrder 4 [some (.inr (.inr ((57 : Nat) : Int))), some (.inl x1), some (.inl y7), none, none, none] [] h Q)))))))) : am_R (am_prog scr) (d + 1) f_Placer_nextOrder 4 [some (.inr (.inr ((57 : Nat) : Int))), some (.inl x1), some (.inl x2), none, none, none] [] h Q := by
  have hp : ∀ k, (am_prog scr).1 f_Placer_nextOrder k = c_Placer_nextOrder k := fun _ => rfl
  refine am_R.next ((hp 4).trans rfl) rfl ?_
  refine r_if ((hp 5).trans rfl) (fun c9 => ?_) (fun c9 => ?_)
  · have H := H.1 c9
    refine am_R.next ((hp 31).trans rfl) rfl ?_
    refine r_if ((hp 32).trans rfl) (fun c2 => ?_) (fun c2 => ?_)
    · have H := H.1 c2
      refine am_R.next ((hp 37).trans rfl) rfl ?_
      refine am_R.next ((hp 38).trans rfl) rfl ?_
      refine am_R.next ((hp 39).trans rfl) rfl ?_
      obtain ⟨y1, ey1⟩ : ∃ z : Int, z = am_w (x1 - 1) := ⟨_, rfl⟩
      have H := H y1 ey1
      refine am_R.next (lv' := [some (.inr (.inr ((57 : Nat) : Int))), some (.inl x1), some (.inl x2), some (.inl y1), none, none]) (st' := []) (h' := h) (pc' := 41) ((hp 40).trans rfl) (by rw [ey1]; rfl) ?_
      exact H
    · have H := H.2 (Decidable.not_not.mp c2)
      refine am_R.next ((hp 35).trans rfl) rfl ?_
      exact r_zret ((hp 36).trans rfl) (Or.inl rfl) H
  · have H := H.2 c9
    refine am_R.next ((hp 8).trans rfl) rfl ?_
    refine r_getR ((hp 9).trans rfl) (hw.o (i := 57) (by decide) rfl) (hw.r wr_57_2) ?_
    refine am_R.next ((hp 12).trans rfl) rfl ?_
    obtain ⟨c3, H⟩ := H
    refine r_iald ((hp 13).trans rfl) (hw.a (i := 61) (by decide) rfl c3.1 c3.2) ?_
    refine am_R.next ((hp 14).trans rfl) rfl ?_
    refine r_getR ((hp 15).trans rfl) (hw.o (i := 57) (by decide) rfl) (hw.r wr_57_2) ?_
    refine am_R.next ((hp 18).trans rfl) rfl ?_
    refine am_R.next ((hp 19).trans rfl) rfl ?_
    refine am_R.next ((hp 20).trans rfl) rfl ?_
    obtain ⟨c4, H⟩ := H
    refine r_iald ((hp 21).trans rfl) (hw.a (i := 61) (by decide) rfl c4.1 c4.2) ?_
    refine r_ic ((hp 22).trans rfl) (fun c8 => ?_) (fun c8 => ?_)
    · have H := H.1 c8
      refine am_R.next ((hp 31).trans rfl) rfl ?_
      refine r_if ((hp 32).trans rfl) (fun c6 => ?_) (fun c6 => ?_)
      · have H := H.1 c6
        refine am_R.next ((hp 37).trans rfl) rfl ?_
        refine am_R.next ((hp 38).trans rfl) rfl ?_
        refine am_R.next ((hp 39).trans rfl) rfl ?_
        obtain ⟨y5, ey5⟩ : ∃ z : Int, z = am_w (x1 - 1) := ⟨_, rfl⟩
        have H := H y5 ey5
        refine am_R.next (lv' := [some (.inr (.inr ((57 : Nat) : Int))), some (.inl x1), some (.inl x2), some (.inl y5), none, none]) (st' := []) (h' := h) (pc' := 41) ((hp 40).trans rfl) (by rw [ey5]; rfl) ?_
        exact H
      · have H := H.2 (Decidable.not_not.mp c6)
        refine am_R.next ((hp 35).trans rfl) rfl ?_
        exact r_zret ((hp 36).trans rfl) (Or.inl rfl) H
    · have H := H.2 c8
      obtain ⟨y7, ey7⟩ : ∃ z : Int, z = am_w (x2 + (-1)) := ⟨_, rfl⟩
      have H := H y7 ey7
      refine am_R.next (lv' := [some (.inr (.inr ((57 : Nat) : Int))), some (.inl x1), some (.inl y7), none, none, none]) (st' := []) (h' := h) (pc' := 28) ((hp 25).trans rfl) (by rw [ey7]; rfl) ?_
      refine am_R.next ((hp 28).trans rfl) rfl ?_
      exact H
theorem w_Placer_nextOrder_41 {scr : Nat × (Nat → Int)} {d : Nat} {h : am_H} {Q : Option am_V → am_H → Prop} {x1 x2 x3 : Int} (hs : am_sc scr) (hw : wf h) (H : (x3 ≤ x2 → (am_R (am_prog scr) (d + 1) f_Placer_nextOrder 67 [some (.inr (.inr ((57 : Nat) : Int))), some (.inl x1), some (.inl x2), some (.inl x3), none, none] [] h Q)) ∧ (¬ (x3 ≤ x2) → ((0 ≤ x3 ∧ x3 < 6) ∧ ((0 ≤ x2 ∧ x2 < 6) ∧ ((¬ ((h.2.2.2 61 x3.toNat) < (h.2.2.2 61 x2.toNat)) → (am_R (am_prog scr) (d + 1) f_Placer_nextOrder 67 [some (.inr (.inr ((57 : Nat) : Int))), some (.inl x1), some (.inl x2), some (.inl x3), none, none] [] h Q)) ∧ ((h.2.2.2 61 x3.toNat) < (h.2.2.2 61 x2.toNat) → (∀ y3 : Int, y3 = am_w (x3 + (-1)) → (am_R (am_prog scr) (d + 1) f_Placer_nextOrder 41 [some (.inr (.inr ((57 : Nat) : Int))), some (.inl x1), some (.inl x2), some (.inl y3), none, none] [] h Q)))))))) : am_R (am_prog scr) (d + 1) f_Placer_nextOrder 41 [some (.inr (.inr ((57 : Nat) : Int))), some (.inl x1), some (.inl x2), some (.inl x3), none, none] [] h Q := by
  have hp : ∀ k, (am_prog scr).1 f_Placer_nextOrder k = c_Placer_nextOrder k := fun _ => rfl
  refine am_R.next ((hp 41).trans rfl) rfl ?_
  refine am_R.next ((hp 42).trans rfl) rfl ?_
  refine r_ic ((hp 43).trans rfl) (fun c5 => ?_) (fun c5 => ?_)
  · have H := H.1 c5
    exact H
  · have H := H.2 c5
    refine am_R.next ((hp 46).trans rfl) rfl ?_
    refine r_getR ((hp 47).trans rfl) (hw.o (i := 57) (by decide) rfl) (hw.r wr_57_2) ?_
    refine am_R.next ((hp 50).trans rfl) rfl ?_
    obtain ⟨c1, H⟩ := H
    refine r_iald ((hp 51).trans rfl) (hw.a (i := 61) (by decide) rfl c1.1 c1.2) ?_
    refine am_R.next ((hp 52).trans rfl) rfl ?_
    refine r_getR ((hp 53).trans rfl) (hw.o (i := 57) (by decide) rfl) (hw.r wr_57_2) ?_
    refine am_R.next ((hp 56).trans rfl) rfl ?_
    obtain ⟨c2, H⟩ := H
    refine r_iald ((hp 57).trans rfl) (hw.a (i := 61) (by decide) rfl c2.1 c2.2) ?_
    refine r_ic ((hp 58).trans rfl) (fun c4 => ?_) (fun c4 => ?_)
    · have H := H.1 c4
      exact H
    · have H := H.2 (Decidable.not_not.mp c4)
      obtain ⟨y3, ey3⟩ : ∃ z : Int, z = am_w (x3 + (-1)) := ⟨_, rfl⟩
      have H := H y3 ey3
      refine am_R.next (lv' := [some (.inr (.inr ((57 : Nat) : Int))), some (.inl x1), some (.inl x2), some (.inl y3), none, none]) (st' := []) (h' := h) (pc' := 64) ((hp 61).trans rfl) (by rw [ey3]; rfl) ?_
      refine am_R.next ((hp 64).trans rfl) rfl ?_
      exact H
theorem w_Placer_nextOrder_67 {scr : Nat × (Nat → Int)} {d : Nat} {h : am_H} {Q : Option am_V → am_H → Prop} {x1 x2 x3 : Int} (hs : am_sc scr) (hw : wf h) (H : am_R (am_prog scr) d f_Placer_swap 0 [some (.inr (.inr ((57 : Nat) : Int))), some (.inl x2), some (.inl x3), none] [] h (fun v g1 => v = none ∧ wf g1 ∧ (∀ y2 : Int, y2 = am_w (x1 - 1) → (∀ y3 : Int, y3 = am_w (x2 + 1) → (am_R (am_prog scr) (d + 1) f_Placer_nextOrder 83 [some (.inr (.inr ((57 : Nat) : Int))), some (.inl x1), some (.inl x2), some (.inl x3), some (.inl y2), some (.inl y3)] [] g1 Q))))) : am_R (am_prog scr) (d + 1) f_Placer_nextOrder 67 [some (.inr (.inr ((57 : Nat) : Int))), some (.inl x1), some (.inl x2), some (.inl x3), none, none] [] h Q := by
  have hp : ∀ k, (am_prog scr).1 f_Placer_nextOrder k = c_Placer_nextOrder k := fun _ => rfl
  refine am_R.next ((hp 67).trans rfl) rfl ?_
  refine am_R.next ((hp 68).trans rfl) rfl ?_
  refine am_R.next ((hp 69).trans rfl) rfl ?_
  refine r_cv (bs := [.inl x2, .inl x3]) (st' := []) ((hp 70).trans rfl) (hw.o (i := 57) (by decide) rfl) rfl rfl (Nat.le_of_ble_eq_true rfl) (Nat.le_of_ble_eq_true rfl) (am_R.post H (fun v g1 hq => ?_))
  obtain ⟨rfl, hw, H⟩ := hq
  change am_R _ _ _ _ _ [] _ _
  refine am_R.next ((hp 73).trans rfl) rfl ?_
  refine am_R.next ((hp 74).trans rfl) rfl ?_
  refine am_R.next ((hp 75).trans rfl) rfl ?_
  obtain ⟨y2, ey2⟩ : ∃ z : Int, z = am_w (x1 - 1) := ⟨_, rfl⟩
  have H := H y2 ey2
  refine am_R.next (lv' := [some (.inr (.inr ((57 : Nat) : Int))), some (.inl x1), some (.inl x2), some (.inl x3), some (.inl y2), none]) (st' := []) (h' := g1) (pc' := 78) ((hp 76).trans rfl) (by rw [ey2]; rfl) ?_
  refine am_R.next ((hp 78).trans rfl) rfl ?_
  refine am_R.next ((hp 79).trans rfl) rfl ?_
  refine am_R.next ((hp 80).trans rfl) rfl ?_
  obtain ⟨y3, ey3⟩ : ∃ z : Int, z = am_w (x2 + 1) := ⟨_, rfl⟩
  have H := H y3 ey3
  refine am_R.next (lv' := [some (.inr (.inr ((57 : Nat) : Int))), some (.inl x1), some (.inl x2), some (.inl x3), some (.inl y2), some (.inl y3)]) (st' := []) (h' := g1) (pc' := 83) ((hp 81).trans rfl) (by rw [ey3]; rfl) ?_
  exact H
theorem w_Placer_nextOrder_83 {scr : Nat × (Nat → Int)} {d : Nat} {h : am_H} {Q : Option am_V → am_H → Prop} {x1 x2 x3 x4 x5 : Int} (hs : am_sc scr) (hw : wf h) (H : (¬ (x5 < x4) → (Q (some (.inl 1)) h)) ∧ (x5 < x4 → (am_R (am_prog scr) d f_Placer_swap 0 [some (.inr (.inr ((57 : Nat) : Int))), some (.inl x5), some (.inl x4), none] [] h (fun v g1 => v = none ∧ wf g1 ∧ (∀ y2 : Int, y2 = am_w (x4 + (-1)) → (∀ y3 : Int, y3 = am_w (x5 + 1) → (am_R (am_prog scr) (d + 1) f_Placer_nextOrder 83 [some (.inr (.inr ((57 : Nat) : Int))), some (.inl x1), some (.inl x2), some (.inl x3), some (.inl y2), some (.inl y3)] [] g1 Q))))))) : am_R (am_prog scr) (d + 1) f_Placer_nextOrder 83 [some (.inr (.inr ((57 : Nat) : Int))), some (.inl x1), some (.inl x2), some (.inl x3), some (.inl x4), some (.inl x5)] [] h Q := by
  have hp : ∀ k, (am_prog scr).1 f_Placer_nextOrder k = c_Placer_nextOrder k := fun _ => rfl
  refine am_R.next ((hp 83).trans rfl) rfl ?_
  refine am_R.next ((hp 85).trans rfl) rfl ?_
  refine r_ic ((hp 87).trans rfl) (fun c4 => ?_) (fun c4 => ?_)
  · have H := H.1 c4
    refine am_R.next ((hp 107).trans rfl) rfl ?_
    exact r_zret ((hp 108).trans rfl) (Or.inr rfl) H
  · have H := H.2 (Decidable.not_not.mp c4)
    refine am_R.next ((hp 90).trans rfl) rfl ?_
    refine am_R.next ((hp 91).trans rfl) rfl ?_
    refine am_R.next ((hp 93).trans rfl) rfl ?_
    refine r_cv (bs := [.inl x5, .inl x4]) (st' := []) ((hp 95).trans rfl) (hw.o (i := 57) (by decide) rfl) rfl rfl (Nat.le_of_ble_eq_true rfl) (Nat.le_of_ble_eq_true rfl) (am_R.post H (fun v g1 hq => ?_))
    obtain ⟨rfl, hw, H⟩ := hq
    change am_R _ _ _ _ _ [] _ _
    obtain ⟨y2, ey2⟩ : ∃ z : Int, z = am_w (x4 + (-1)) := ⟨_, rfl⟩
    have H := H y2 ey2
    refine am_R.next (lv' := [some (.inr (.inr ((57 : Nat) : Int))), some (.inl x1), some (.inl x2), some (.inl x3), some (.inl y2), some (.inl x5)]) (st' := []) (h' := g1) (pc' := 101) ((hp 98).trans rfl) (by rw [ey2]; rfl) ?_
    obtain ⟨y3, ey3⟩ : ∃ z : Int, z = am_w (x5 + 1) := ⟨_, rfl⟩
    have H := H y3 ey3
    refine am_R.next (lv' := [some (.inr (.inr ((57 : Nat) : Int))), some (.inl x1), some (.inl x2), some (.inl x3), some (.inl y2), some (.inl y3)]) (st' := []) (h' := g1) (pc' := 104) ((hp 101).trans rfl) (by rw [ey3]; rfl) ?_
    refine am_R.next ((hp 104).trans rfl) rfl ?_
    exact H
theorem w_Placer_swap_0 {scr : Nat × (Nat → Int)} {d : Nat} {h : am_H} {Q : Option am_V → am_H → Prop} {x1 x2 : Int} (hs : am_sc scr) (hw : wf h) (H : (0 ≤ x1 ∧ x1 < 6) ∧ (∀ y2 : Int, y2 = h.2.2.2 61 x1.toNat → ((0 ≤ x2 ∧ x2 < 6) ∧ (((0 ≤ x1 ∧ x1 < 6)) ∧ (∀ h5 : am_H, h5 = am_put h 61 x1.toNat (h.2.2.2 61 x2.toNat) → (((0 ≤ x2 ∧ x2 < 6)) ∧ (∀ h7 : am_H, h7 = am_put h5 61 x2.toNat y2 → (Q none h7)))))))) : am_R (am_prog scr) d f_Placer_swap 0 [some (.inr (.inr ((57 : Nat) : Int))), some (.inl x1), some (.inl x2), none] [] h Q := by
  have hp : ∀ k, (am_prog scr).1 f_Placer_swap k = c_Placer_swap k := fun _ => rfl
  refine am_R.next ((hp 0).trans rfl) rfl ?_
  refine r_getR ((hp 1).trans rfl) (hw.o (i := 57) (by decide) rfl) (hw.r wr_57_2) ?_
  refine am_R.next ((hp 4).trans rfl) rfl ?_
  obtain ⟨c1, H⟩ := H
  refine r_iald ((hp 5).trans rfl) (hw.a (i := 61) (by decide) rfl c1.1 c1.2) ?_
  obtain ⟨y2, ey2⟩ : ∃ z : Int, z = h.2.2.2 61 x1.toNat := ⟨_, rfl⟩
  have H := H y2 ey2
  refine am_R.next (lv' := [some (.inr (.inr ((57 : Nat) : Int))), some (.inl x1), some (.inl x2), some (.inl y2)]) (st' := []) (h' := h) (pc' := 7) ((hp 6).trans rfl) (by rw [ey2]; rfl) ?_
  refine am_R.next ((hp 7).trans rfl) rfl ?_
  refine r_getR ((hp 8).trans rfl) (hw.o (i := 57) (by decide) rfl) (hw.r wr_57_2) ?_
  refine am_R.next ((hp 11).trans rfl) rfl ?_
  refine am_R.next ((hp 12).trans rfl) rfl ?_
  refine r_getR ((hp 13).trans rfl) (hw.o (i := 57) (by decide) rfl) (hw.r wr_57_2) ?_
  refine am_R.next ((hp 16).trans rfl) rfl ?_
  obtain ⟨c3, H⟩ := H
  refine r_iald ((hp 17).trans rfl) (hw.a (i := 61) (by decide) rfl c3.1 c3.2) ?_
  obtain ⟨c4, H⟩ := H
  obtain ⟨h5, eh5⟩ : ∃ z : am_H, z = am_put h 61 x1.toNat (h.2.2.2 61 x2.toNat) := ⟨_, rfl⟩
  have H := H h5 eh5
  refine r_iast ((hp 18).trans rfl) (hw.a (i := 61) (by decide) rfl c4.1 c4.2) ?_
  have hw : wf h5 := by rw [eh5]; exact hw.pa na_61
  change am_R _ _ _ _ _ _ (am_put h 61 x1.toNat (h.2.2.2 61 x2.toNat)) _
  rw [← eh5]
  refine am_R.next ((hp 19).trans rfl) rfl ?_
  refine r_getR ((hp 20).trans rfl) (hw.o (i := 57) (by decide) rfl) (hw.r wr_57_2) ?_
  refine am_R.next ((hp 23).trans rfl) rfl ?_
  refine am_R.next ((hp 24).trans rfl) rfl ?_
  obtain ⟨c6, H⟩ := H
  obtain ⟨h7, eh7⟩ : ∃ z : am_H, z = am_put h5 61 x2.toNat y2 := ⟨_, rfl⟩
  have H := H h7 eh7
  refine r_iast ((hp 25).trans rfl) (hw.a (i := 61) (by decide) rfl c6.1 c6.2) ?_
  have hw : wf h7 := by rw [eh7]; exact hw.pa na_61
  change am_R _ _ _ _ _ _ (am_put h5 61 x2.toNat y2) _
  rw [← eh7]
  exact am_R.ret ((hp 26).trans rfl) rfl H
theorem w_Play_open_0 {scr : Nat × (Nat → Int)} {d : Nat} {h : am_H} {Q : Option am_V → am_H → Prop} {a1 : Int} {p0 : Nat} (hp0 : p0 ∈ PL) (hs : am_sc scr) (hw : wf h) (H : (-1 ≤ a1) ∧ (∀ h2 : am_H, h2 = am_put h p0 0 a1 → (am_isO h2 a1 1 ∧ ((0 ≤ (h2.2.2.2 a1.toNat 5) ∧ (h2.2.2.1 ((h2.2.2.2 a1.toNat 5).toNat)).1 = 1) ∧ ((0 ≤ ((p0 + 1 : Nat) : Int) ∧ (h2.2.2.1 (p0 + 1)).1 = 1) ∧ ((h2.2.2.2 a1.toNat 5) ≠ ((p0 + 1 : Nat) : Int) ∧ ((0 ≤ (6 : Int) ∧ 0 ≤ (0 : Int) ∧ 0 ≤ (0 : Int)) ∧ ((0 : Int) + 6 ≤ ((h2.2.2.1 ((h2.2.2.2 a1.toNat 5).toNat)).2 : Int) ∧ ((0 : Int) + 6 ≤ ((h2.2.2.1 (p0 + 1)).2 : Int) ∧ (∀ h10 : am_H, h10 = am_cpy h2 ((h2.2.2.2 a1.toNat 5).toNat) (p0 + 1) 0 0 6 → (am_isO h10 a1 1 ∧ ((0 ≤ (h10.2.2.2 a1.toNat 6) ∧ (h10.2.2.1 ((h10.2.2.2 a1.toNat 6).toNat)).1 = 1) ∧ ((0 ≤ ((p0 + 2 : Nat) : Int) ∧ (h10.2.2.1 (p0 + 2)).1 = 1) ∧ ((h10.2.2.2 a1.toNat 6) ≠ ((p0 + 2 : Nat) : Int) ∧ ((0 ≤ (6 : Int) ∧ 0 ≤ (0 : Int) ∧ 0 ≤ (0 : Int)) ∧ ((0 : Int) + 6 ≤ ((h10.2.2.1 ((h10.2.2.2 a1.toNat 6).toNat)).2 : Int) ∧ ((0 : Int) + 6 ≤ ((h10.2.2.1 (p0 + 2)).2 : Int) ∧ (∀ h18 : am_H, h18 = am_cpy h10 ((h10.2.2.2 a1.toNat 6).toNat) (p0 + 2) 0 0 6 → (am_isO h18 a1 1 ∧ (∀ h20 : am_H, h20 = am_put h18 p0 3 (h18.2.2.2 a1.toNat 10) → (am_isO h20 a1 1 ∧ ((¬ ((h20.2.2.2 a1.toNat 4) = 0) → (∀ h22 : am_H, h22 = am_put h20 p0 8 0 → (((h22.2.2.2 p0 8) = 0 → (am_isO h22 a1 1 ∧ (∀ h24 : am_H, h24 = am_put h22 p0 4 (h22.2.2.2 a1.toNat 7) → (am_isO h24 a1 1 ∧ (∀ h26 : am_H, h26 = am_put h24 p0 5 (h24.2.2.2 a1.toNat 8) → (∀ h27 : am_H, h27 = am_put h26 p0 6 0 → (∀ h28 : am_H, h28 = am_put h27 p0 7 0 → (Q none h28)))))))) ∧ (¬ ((h22.2.2.2 p0 8) = 0) → (∀ h29 : am_H, h29 = am_put h22 p0 4 (-1) → (am_isO h29 a1 1 ∧ (∀ h31 : am_H, h31 = am_put h29 p0 5 (h29.2.2.2 a1.toNat 8) → (∀ h32 : am_H, h32 = am_put h31 p0 6 0 → (∀ h33 : am_H, h33 = am_put h32 p0 7 0 → (Q none h33)))))))))) ∧ ((h20.2.2.2 a1.toNat 4) = 0 → (∀ h35 : am_H, h35 = am_put h20 p0 8 1 → (((h35.2.2.2 p0 8) = 0 → (am_isO h35 a1 1 ∧ (∀ h37 : am_H, h37 = am_put h35 p0 4 (h35.2.2.2 a1.toNat 7) → (am_isO h37 a1 1 ∧ (∀ h39 : am_H, h39 = am_put h37 p0 5 (h37.2.2.2 a1.toNat 8) → (∀ h40 : am_H, h40 = am_put h39 p0 6 0 → (∀ h41 : am_H, h41 = am_put h40 p0 7 0 → (Q none h41)))))))) ∧ (¬ ((h35.2.2.2 p0 8) = 0) → (∀ h42 : am_H, h42 = am_put h35 p0 4 (-1) → (am_isO h42 a1 1 ∧ (∀ h44 : am_H, h44 = am_put h42 p0 5 (h42.2.2.2 a1.toNat 8) → (∀ h45 : am_H, h45 = am_put h44 p0 6 0 → (∀ h46 : am_H, h46 = am_put h45 p0 7 0 → (Q none h46)))))))))))))))))))))))))))))))) : am_R (am_prog scr) d f_Play_open 0 [some (.inr (.inr ((p0 : Nat) : Int))), some (.inr (.inr a1))] [] h Q := by
  have hp : ∀ k, (am_prog scr).1 f_Play_open k = c_Play_open k := fun _ => rfl
  refine am_R.next ((hp 0).trans rfl) rfl ?_
  refine am_R.next ((hp 1).trans rfl) rfl ?_
  obtain ⟨c1, H⟩ := H
  obtain ⟨h2, eh2⟩ : ∃ z : am_H, z = am_put h p0 0 a1 := ⟨_, rfl⟩
  have H := H h2 eh2
  refine r_putR ((hp 2).trans rfl) (pl_o hp0 hw) c1 ?_
  have hw : wf h2 := by rw [eh2]; exact hw.put (pl_np hp0 (by decide))
  change am_R _ _ _ _ _ _ (am_put h p0 0 a1) _
  rw [← eh2]
  refine am_R.next ((hp 5).trans rfl) rfl ?_
  obtain ⟨c3, H⟩ := H
  refine r_getR ((hp 6).trans rfl) c3 rfl ?_
  refine am_R.next ((hp 9).trans rfl) rfl ?_
  refine am_R.next ((hp 10).trans rfl) rfl ?_
  refine r_getR ((hp 11).trans rfl) (pl_o hp0 hw) (pl_b hp0 hw) ?_
  refine am_R.next ((hp 14).trans rfl) rfl ?_
  refine am_R.next ((hp 15).trans rfl) rfl ?_
  obtain ⟨c4, c5, c6, c7, c8, c9, H⟩ := H
  obtain ⟨h10, eh10⟩ : ∃ z : am_H, z = am_cpy h2 ((h2.2.2.2 a1.toNat 5).toNat) (p0 + 1) 0 0 6 := ⟨_, rfl⟩
  have H := H h10 eh10
  refine r_acpy ((hp 17).trans rfl) (Or.inr c4) c5 c6 c7 c8 c9 (Nat.le_of_ble_eq_true rfl) ?_
  have hw : wf h10 := by rw [eh10]; exact hw.cpy (pl_lt hp0).2.2.2.2.2.2.1
  change am_R _ _ _ _ _ _ (am_cpy h2 ((h2.2.2.2 a1.toNat 5).toNat) (p0 + 1) 0 0 6) _
  rw [← eh10]
  refine am_R.next ((hp 20).trans rfl) rfl ?_
  obtain ⟨c11, H⟩ := H
  refine r_getR ((hp 21).trans rfl) c11 rfl ?_
  refine am_R.next ((hp 24).trans rfl) rfl ?_
  refine am_R.next ((hp 25).trans rfl) rfl ?_
  refine r_getR ((hp 26).trans rfl) (pl_o hp0 hw) (pl_d hp0 hw) ?_
  refine am_R.next ((hp 29).trans rfl) rfl ?_
  refine am_R.next ((hp 30).trans rfl) rfl ?_
  obtain ⟨c12, c13, c14, c15, c16, c17, H⟩ := H
  obtain ⟨h18, eh18⟩ : ∃ z : am_H, z = am_cpy h10 ((h10.2.2.2 a1.toNat 6).toNat) (p0 + 2) 0 0 6 := ⟨_, rfl⟩
  have H := H h18 eh18
  refine r_acpy ((hp 32).trans rfl) (Or.inr c12) c13 c14 c15 c16 c17 (Nat.le_of_ble_eq_true rfl) ?_
  have hw : wf h18 := by rw [eh18]; exact hw.cpy (pl_lt hp0).2.2.2.2.2.2.2
  change am_R _ _ _ _ _ _ (am_cpy h10 ((h10.2.2.2 a1.toNat 6).toNat) (p0 + 2) 0 0 6) _
  rw [← eh18]
  refine am_R.next ((hp 35).trans rfl) rfl ?_
  refine am_R.next ((hp 36).trans rfl) rfl ?_
  obtain ⟨c19, H⟩ := H
  refine r_getI ((hp 37).trans rfl) c19 ?_
  obtain ⟨h20, eh20⟩ : ∃ z : am_H, z = am_put h18 p0 3 (h18.2.2.2 a1.toNat 10) := ⟨_, rfl⟩
  have H := H h20 eh20
  refine r_putI ((hp 40).trans rfl) (pl_o hp0 hw) ?_
  have hw : wf h20 := by rw [eh20]; exact hw.put (pl_np hp0 (by decide))
  change am_R _ _ _ _ _ _ (am_put h18 p0 3 (h18.2.2.2 a1.toNat 10)) _
  rw [← eh20]
  refine am_R.next ((hp 43).trans rfl) rfl ?_
  refine am_R.next ((hp 44).trans rfl) rfl ?_
  obtain ⟨c21, H⟩ := H
  refine r_getI ((hp 45).trans rfl) c21 ?_
  refine r_if ((hp 48).trans rfl) (fun c48 => ?_) (fun c48 => ?_)
  · have H := H.1 c48
    refine am_R.next ((hp 55).trans rfl) rfl ?_
    obtain ⟨h22, eh22⟩ : ∃ z : am_H, z = am_put h20 p0 8 0 := ⟨_, rfl⟩
    have H := H h22 eh22
    refine r_putZ ((hp 56).trans rfl) (pl_o hp0 hw) (Or.inl rfl) ?_
    have hw : wf h22 := by rw [eh22]; exact hw.put (pl_np hp0 (by decide))
    change am_R _ _ _ _ _ _ (am_put h20 p0 8 0) _
    rw [← eh22]
    refine am_R.next ((hp 59).trans rfl) rfl ?_
    refine am_R.next ((hp 60).trans rfl) rfl ?_
    refine r_getI ((hp 61).trans rfl) (pl_o hp0 hw) ?_
    refine r_if ((hp 64).trans rfl) (fun c34 => ?_) (fun c34 => ?_)
    · have H := H.1 c34
      refine am_R.next ((hp 71).trans rfl) rfl ?_
      obtain ⟨c23, H⟩ := H
      refine r_getI ((hp 72).trans rfl) c23 ?_
      obtain ⟨h24, eh24⟩ : ∃ z : am_H, z = am_put h22 p0 4 (h22.2.2.2 a1.toNat 7) := ⟨_, rfl⟩
      have H := H h24 eh24
      refine r_putI ((hp 75).trans rfl) (pl_o hp0 hw) ?_
      have hw : wf h24 := by rw [eh24]; exact hw.put (pl_np hp0 (by decide))
      change am_R _ _ _ _ _ _ (am_put h22 p0 4 (h22.2.2.2 a1.toNat 7)) _
      rw [← eh24]
      refine am_R.next ((hp 78).trans rfl) rfl ?_
      refine am_R.next ((hp 79).trans rfl) rfl ?_
      obtain ⟨c25, H⟩ := H
      refine r_getI ((hp 80).trans rfl) c25 ?_
      obtain ⟨h26, eh26⟩ : ∃ z : am_H, z = am_put h24 p0 5 (h24.2.2.2 a1.toNat 8) := ⟨_, rfl⟩
      have H := H h26 eh26
      refine r_putI ((hp 83).trans rfl) (pl_o hp0 hw) ?_
      have hw : wf h26 := by rw [eh26]; exact hw.put (pl_np hp0 (by decide))
      change am_R _ _ _ _ _ _ (am_put h24 p0 5 (h24.2.2.2 a1.toNat 8)) _
      rw [← eh26]
      refine am_R.next ((hp 86).trans rfl) rfl ?_
      refine am_R.next ((hp 87).trans rfl) rfl ?_
      obtain ⟨h27, eh27⟩ : ∃ z : am_H, z = am_put h26 p0 6 0 := ⟨_, rfl⟩
      have H := H h27 eh27
      refine r_putI ((hp 88).trans rfl) (pl_o hp0 hw) ?_
      have hw : wf h27 := by rw [eh27]; exact hw.put (pl_np hp0 (by decide))
      change am_R _ _ _ _ _ _ (am_put h26 p0 6 0) _
      rw [← eh27]
      refine am_R.next ((hp 91).trans rfl) rfl ?_
      refine am_R.next ((hp 92).trans rfl) rfl ?_
      obtain ⟨h28, eh28⟩ : ∃ z : am_H, z = am_put h27 p0 7 0 := ⟨_, rfl⟩
      have H := H h28 eh28
      refine r_putI ((hp 93).trans rfl) (pl_o hp0 hw) ?_
      have hw : wf h28 := by rw [eh28]; exact hw.put (pl_np hp0 (by decide))
      change am_R _ _ _ _ _ _ (am_put h27 p0 7 0) _
      rw [← eh28]
      exact am_R.ret ((hp 96).trans rfl) rfl H
    · have H := H.2 c34
      refine am_R.next ((hp 67).trans rfl) rfl ?_
      refine am_R.next ((hp 68).trans rfl) rfl ?_
      obtain ⟨h29, eh29⟩ : ∃ z : am_H, z = am_put h22 p0 4 (-1) := ⟨_, rfl⟩
      have H := H h29 eh29
      refine r_putI ((hp 75).trans rfl) (pl_o hp0 hw) ?_
      have hw : wf h29 := by rw [eh29]; exact hw.put (pl_np hp0 (by decide))
      change am_R _ _ _ _ _ _ (am_put h22 p0 4 (-1)) _
      rw [← eh29]
      refine am_R.next ((hp 78).trans rfl) rfl ?_
      refine am_R.next ((hp 79).trans rfl) rfl ?_
      obtain ⟨c30, H⟩ := H
      refine r_getI ((hp 80).trans rfl) c30 ?_
      obtain ⟨h31, eh31⟩ : ∃ z : am_H, z = am_put h29 p0 5 (h29.2.2.2 a1.toNat 8) := ⟨_, rfl⟩
      have H := H h31 eh31
      refine r_putI ((hp 83).trans rfl) (pl_o hp0 hw) ?_
      have hw : wf h31 := by rw [eh31]; exact hw.put (pl_np hp0 (by decide))
      change am_R _ _ _ _ _ _ (am_put h29 p0 5 (h29.2.2.2 a1.toNat 8)) _
      rw [← eh31]
      refine am_R.next ((hp 86).trans rfl) rfl ?_
      refine am_R.next ((hp 87).trans rfl) rfl ?_
      obtain ⟨h32, eh32⟩ : ∃ z : am_H, z = am_put h31 p0 6 0 := ⟨_, rfl⟩
      have H := H h32 eh32
      refine r_putI ((hp 88).trans rfl) (pl_o hp0 hw) ?_
      have hw : wf h32 := by rw [eh32]; exact hw.put (pl_np hp0 (by decide))
      change am_R _ _ _ _ _ _ (am_put h31 p0 6 0) _
      rw [← eh32]
      refine am_R.next ((hp 91).trans rfl) rfl ?_
      refine am_R.next ((hp 92).trans rfl) rfl ?_
      obtain ⟨h33, eh33⟩ : ∃ z : am_H, z = am_put h32 p0 7 0 := ⟨_, rfl⟩
      have H := H h33 eh33
      refine r_putI ((hp 93).trans rfl) (pl_o hp0 hw) ?_
      have hw : wf h33 := by rw [eh33]; exact hw.put (pl_np hp0 (by decide))
      change am_R _ _ _ _ _ _ (am_put h32 p0 7 0) _
      rw [← eh33]
      exact am_R.ret ((hp 96).trans rfl) rfl H
  · have H := H.2 (Decidable.not_not.mp c48)
    refine am_R.next ((hp 51).trans rfl) rfl ?_
    refine am_R.next ((hp 52).trans rfl) rfl ?_
    obtain ⟨h35, eh35⟩ : ∃ z : am_H, z = am_put h20 p0 8 1 := ⟨_, rfl⟩
    have H := H h35 eh35
    refine r_putZ ((hp 56).trans rfl) (pl_o hp0 hw) (Or.inr rfl) ?_
    have hw : wf h35 := by rw [eh35]; exact hw.put (pl_np hp0 (by decide))
    change am_R _ _ _ _ _ _ (am_put h20 p0 8 1) _
    rw [← eh35]
    refine am_R.next ((hp 59).trans rfl) rfl ?_
    refine am_R.next ((hp 60).trans rfl) rfl ?_
    refine r_getI ((hp 61).trans rfl) (pl_o hp0 hw) ?_
    refine r_if ((hp 64).trans rfl) (fun c47 => ?_) (fun c47 => ?_)
    · have H := H.1 c47
      refine am_R.next ((hp 71).trans rfl) rfl ?_
      obtain ⟨c36, H⟩ := H
      refine r_getI ((hp 72).trans rfl) c36 ?_
      obtain ⟨h37, eh37⟩ : ∃ z : am_H, z = am_put h35 p0 4 (h35.2.2.2 a1.toNat 7) := ⟨_, rfl⟩
      have H := H h37 eh37
      refine r_putI ((hp 75).trans rfl) (pl_o hp0 hw) ?_
      have hw : wf h37 := by rw [eh37]; exact hw.put (pl_np hp0 (by decide))
      change am_R _ _ _ _ _ _ (am_put h35 p0 4 (h35.2.2.2 a1.toNat 7)) _
      rw [← eh37]
      refine am_R.next ((hp 78).trans rfl) rfl ?_
      refine am_R.next ((hp 79).trans rfl) rfl ?_
      obtain ⟨c38, H⟩ := H
      refine r_getI ((hp 80).trans rfl) c38 ?_
      obtain ⟨h39, eh39⟩ : ∃ z : am_H, z = am_put h37 p0 5 (h37.2.2.2 a1.toNat 8) := ⟨_, rfl⟩
      have H := H h39 eh39
      refine r_putI ((hp 83).trans rfl) (pl_o hp0 hw) ?_
      have hw : wf h39 := by rw [eh39]; exact hw.put (pl_np hp0 (by decide))
      change am_R _ _ _ _ _ _ (am_put h37 p0 5 (h37.2.2.2 a1.toNat 8)) _
      rw [← eh39]
      refine am_R.next ((hp 86).trans rfl) rfl ?_
      refine am_R.next ((hp 87).trans rfl) rfl ?_
      obtain ⟨h40, eh40⟩ : ∃ z : am_H, z = am_put h39 p0 6 0 := ⟨_, rfl⟩
      have H := H h40 eh40
      refine r_putI ((hp 88).trans rfl) (pl_o hp0 hw) ?_
      have hw : wf h40 := by rw [eh40]; exact hw.put (pl_np hp0 (by decide))
      change am_R _ _ _ _ _ _ (am_put h39 p0 6 0) _
      rw [← eh40]
      refine am_R.next ((hp 91).trans rfl) rfl ?_
      refine am_R.next ((hp 92).trans rfl) rfl ?_
      obtain ⟨h41, eh41⟩ : ∃ z : am_H, z = am_put h40 p0 7 0 := ⟨_, rfl⟩
      have H := H h41 eh41
      refine r_putI ((hp 93).trans rfl) (pl_o hp0 hw) ?_
      have hw : wf h41 := by rw [eh41]; exact hw.put (pl_np hp0 (by decide))
      change am_R _ _ _ _ _ _ (am_put h40 p0 7 0) _
      rw [← eh41]
      exact am_R.ret ((hp 96).trans rfl) rfl H
    · have H := H.2 c47
      refine am_R.next ((hp 67).trans rfl) rfl ?_
      refine am_R.next ((hp 68).trans rfl) rfl ?_
      obtain ⟨h42, eh42⟩ : ∃ z : am_H, z = am_put h35 p0 4 (-1) := ⟨_, rfl⟩
      have H := H h42 eh42
      refine r_putI ((hp 75).trans rfl) (pl_o hp0 hw) ?_
      have hw : wf h42 := by rw [eh42]; exact hw.put (pl_np hp0 (by decide))
      change am_R _ _ _ _ _ _ (am_put h35 p0 4 (-1)) _
      rw [← eh42]
      refine am_R.next ((hp 78).trans rfl) rfl ?_
      refine am_R.next ((hp 79).trans rfl) rfl ?_
      obtain ⟨c43, H⟩ := H
      refine r_getI ((hp 80).trans rfl) c43 ?_
      obtain ⟨h44, eh44⟩ : ∃ z : am_H, z = am_put h42 p0 5 (h42.2.2.2 a1.toNat 8) := ⟨_, rfl⟩
      have H := H h44 eh44
      refine r_putI ((hp 83).trans rfl) (pl_o hp0 hw) ?_
      have hw : wf h44 := by rw [eh44]; exact hw.put (pl_np hp0 (by decide))
      change am_R _ _ _ _ _ _ (am_put h42 p0 5 (h42.2.2.2 a1.toNat 8)) _
      rw [← eh44]
      refine am_R.next ((hp 86).trans rfl) rfl ?_
      refine am_R.next ((hp 87).trans rfl) rfl ?_
      obtain ⟨h45, eh45⟩ : ∃ z : am_H, z = am_put h44 p0 6 0 := ⟨_, rfl⟩
      have H := H h45 eh45
      refine r_putI ((hp 88).trans rfl) (pl_o hp0 hw) ?_
      have hw : wf h45 := by rw [eh45]; exact hw.put (pl_np hp0 (by decide))
      change am_R _ _ _ _ _ _ (am_put h44 p0 6 0) _
      rw [← eh45]
      refine am_R.next ((hp 91).trans rfl) rfl ?_
      refine am_R.next ((hp 92).trans rfl) rfl ?_
      obtain ⟨h46, eh46⟩ : ∃ z : am_H, z = am_put h45 p0 7 0 := ⟨_, rfl⟩
      have H := H h46 eh46
      refine r_putI ((hp 93).trans rfl) (pl_o hp0 hw) ?_
      have hw : wf h46 := by rw [eh46]; exact hw.put (pl_np hp0 (by decide))
      change am_R _ _ _ _ _ _ (am_put h45 p0 7 0) _
      rw [← eh46]
      exact am_R.ret ((hp 96).trans rfl) rfl H
theorem w_Play_takeFrom_0 {scr : Nat × (Nat → Int)} {d : Nat} {h : am_H} {Q : Option am_V → am_H → Prop} {p0 : Nat} (hp0 : p0 ∈ PL) {p1 : Nat} (hp1 : p1 ∈ PL) (hs : am_sc scr) (hw : wf h) (H : (-1 ≤ (h.2.2.2 p1 0)) ∧ (∀ h2 : am_H, h2 = am_put h p0 0 (h.2.2.2 p1 0) → ((0 ≤ ((p1 + 1 : Nat) : Int) ∧ (h2.2.2.1 (p1 + 1)).1 = 1) ∧ ((0 ≤ ((p0 + 1 : Nat) : Int) ∧ (h2.2.2.1 (p0 + 1)).1 = 1) ∧ (((p1 + 1 : Nat) : Int) ≠ ((p0 + 1 : Nat) : Int) ∧ ((0 ≤ (6 : Int) ∧ 0 ≤ (0 : Int) ∧ 0 ≤ (0 : Int)) ∧ ((0 : Int) + 6 ≤ ((h2.2.2.1 (p1 + 1)).2 : Int) ∧ ((0 : Int) + 6 ≤ ((h2.2.2.1 (p0 + 1)).2 : Int) ∧ (∀ h9 : am_H, h9 = am_cpy h2 (p1 + 1) (p0 + 1) 0 0 6 → ((0 ≤ ((p1 + 2 : Nat) : Int) ∧ (h9.2.2.1 (p1 + 2)).1 = 1) ∧ ((0 ≤ ((p0 + 2 : Nat) : Int) ∧ (h9.2.2.1 (p0 + 2)).1 = 1) ∧ (((p1 + 2 : Nat) : Int) ≠ ((p0 + 2 : Nat) : Int) ∧ ((0 ≤ (6 : Int) ∧ 0 ≤ (0 : Int) ∧ 0 ≤ (0 : Int)) ∧ ((0 : Int) + 6 ≤ ((h9.2.2.1 (p1 + 2)).2 : Int) ∧ ((0 : Int) + 6 ≤ ((h9.2.2.1 (p0 + 2)).2 : Int) ∧ (∀ h16 : am_H, h16 = am_cpy h9 (p1 + 2) (p0 + 2) 0 0 6 → (∀ h17 : am_H, h17 = am_put h16 p0 3 (h16.2.2.2 p1 3) → (∀ h18 : am_H, h18 = am_put h17 p0 4 (h17.2.2.2 p1 4) → (∀ h19 : am_H, h19 = am_put h18 p0 5 (h18.2.2.2 p1 5) → (∀ h20 : am_H, h20 = am_put h19 p0 6 (h19.2.2.2 p1 6) → (∀ h21 : am_H, h21 = am_put h20 p0 7 (h20.2.2.2 p1 7) → ((((h21.2.2.2 p1 8) = 0 ∨ (h21.2.2.2 p1 8) = 1)) ∧ (∀ h23 : am_H, h23 = am_put h21 p0 8 (h21.2.2.2 p1 8) → (Q none h23)))))))))))))))))))))))) : am_R (am_prog scr) d f_Play_takeFrom 0 [some (.inr (.inr ((p0 : Nat) : Int))), some (.inr (.inr ((p1 : Nat) : Int)))] [] h Q := by
  have hp : ∀ k, (am_prog scr).1 f_Play_takeFrom k = c_Play_takeFrom k := fun _ => rfl
  refine am_R.next ((hp 0).trans rfl) rfl ?_
  refine am_R.next ((hp 1).trans rfl) rfl ?_
  refine r_getR ((hp 2).trans rfl) (pl_o hp1 hw) rfl ?_
  obtain ⟨c1, H⟩ := H
  obtain ⟨h2, eh2⟩ : ∃ z : am_H, z = am_put h p0 0 (h.2.2.2 p1 0) := ⟨_, rfl⟩
  have H := H h2 eh2
  refine r_putR ((hp 5).trans rfl) (pl_o hp0 hw) c1 ?_
  have hw : wf h2 := by rw [eh2]; exact hw.put (pl_np hp0 (by decide))
  change am_R _ _ _ _ _ _ (am_put h p0 0 (h.2.2.2 p1 0)) _
  rw [← eh2]
  refine am_R.next ((hp 8).trans rfl) rfl ?_
  refine r_getR ((hp 9).trans rfl) (pl_o hp1 hw) (pl_b hp1 hw) ?_
  refine am_R.next ((hp 12).trans rfl) rfl ?_
  refine am_R.next ((hp 13).trans rfl) rfl ?_
  refine r_getR ((hp 14).trans rfl) (pl_o hp0 hw) (pl_b hp0 hw) ?_
  refine am_R.next ((hp 17).trans rfl) rfl ?_
  refine am_R.next ((hp 18).trans rfl) rfl ?_
  obtain ⟨c3, c4, c5, c6, c7, c8, H⟩ := H
  obtain ⟨h9, eh9⟩ : ∃ z : am_H, z = am_cpy h2 (p1 + 1) (p0 + 1) 0 0 6 := ⟨_, rfl⟩
  have H := H h9 eh9
  refine r_acpy ((hp 20).trans rfl) (Or.inr c3) c4 c5 c6 c7 c8 (Nat.le_of_ble_eq_true rfl) ?_
  have hw : wf h9 := by rw [eh9]; exact hw.cpy (pl_lt hp0).2.2.2.2.2.2.1
  change am_R _ _ _ _ _ _ (am_cpy h2 (p1 + 1) (p0 + 1) 0 0 6) _
  rw [← eh9]
  refine am_R.next ((hp 23).trans rfl) rfl ?_
  refine r_getR ((hp 24).trans rfl) (pl_o hp1 hw) (pl_d hp1 hw) ?_
  refine am_R.next ((hp 27).trans rfl) rfl ?_
  refine am_R.next ((hp 28).trans rfl) rfl ?_
  refine r_getR ((hp 29).trans rfl) (pl_o hp0 hw) (pl_d hp0 hw) ?_
  refine am_R.next ((hp 32).trans rfl) rfl ?_
  refine am_R.next ((hp 33).trans rfl) rfl ?_
  obtain ⟨c10, c11, c12, c13, c14, c15, H⟩ := H
  obtain ⟨h16, eh16⟩ : ∃ z : am_H, z = am_cpy h9 (p1 + 2) (p0 + 2) 0 0 6 := ⟨_, rfl⟩
  have H := H h16 eh16
  refine r_acpy ((hp 35).trans rfl) (Or.inr c10) c11 c12 c13 c14 c15 (Nat.le_of_ble_eq_true rfl) ?_
  have hw : wf h16 := by rw [eh16]; exact hw.cpy (pl_lt hp0).2.2.2.2.2.2.2
  change am_R _ _ _ _ _ _ (am_cpy h9 (p1 + 2) (p0 + 2) 0 0 6) _
  rw [← eh16]
  refine am_R.next ((hp 38).trans rfl) rfl ?_
  refine am_R.next ((hp 39).trans rfl) rfl ?_
  refine r_getI ((hp 40).trans rfl) (pl_o hp1 hw) ?_
  obtain ⟨h17, eh17⟩ : ∃ z : am_H, z = am_put h16 p0 3 (h16.2.2.2 p1 3) := ⟨_, rfl⟩
  have H := H h17 eh17
  refine r_putI ((hp 43).trans rfl) (pl_o hp0 hw) ?_
  have hw : wf h17 := by rw [eh17]; exact hw.put (pl_np hp0 (by decide))
  change am_R _ _ _ _ _ _ (am_put h16 p0 3 (h16.2.2.2 p1 3)) _
  rw [← eh17]
  refine am_R.next ((hp 46).trans rfl) rfl ?_
  refine am_R.next ((hp 47).trans rfl) rfl ?_
  refine r_getI ((hp 48).trans rfl) (pl_o hp1 hw) ?_
  obtain ⟨h18, eh18⟩ : ∃ z : am_H, z = am_put h17 p0 4 (h17.2.2.2 p1 4) := ⟨_, rfl⟩
  have H := H h18 eh18
  refine r_putI ((hp 51).trans rfl) (pl_o hp0 hw) ?_
  have hw : wf h18 := by rw [eh18]; exact hw.put (pl_np hp0 (by decide))
  change am_R _ _ _ _ _ _ (am_put h17 p0 4 (h17.2.2.2 p1 4)) _
  rw [← eh18]
  refine am_R.next ((hp 54).trans rfl) rfl ?_
  refine am_R.next ((hp 55).trans rfl) rfl ?_
  refine r_getI ((hp 56).trans rfl) (pl_o hp1 hw) ?_
  obtain ⟨h19, eh19⟩ : ∃ z : am_H, z = am_put h18 p0 5 (h18.2.2.2 p1 5) := ⟨_, rfl⟩
  have H := H h19 eh19
  refine r_putI ((hp 59).trans rfl) (pl_o hp0 hw) ?_
  have hw : wf h19 := by rw [eh19]; exact hw.put (pl_np hp0 (by decide))
  change am_R _ _ _ _ _ _ (am_put h18 p0 5 (h18.2.2.2 p1 5)) _
  rw [← eh19]
  refine am_R.next ((hp 62).trans rfl) rfl ?_
  refine am_R.next ((hp 63).trans rfl) rfl ?_
  refine r_getI ((hp 64).trans rfl) (pl_o hp1 hw) ?_
  obtain ⟨h20, eh20⟩ : ∃ z : am_H, z = am_put h19 p0 6 (h19.2.2.2 p1 6) := ⟨_, rfl⟩
  have H := H h20 eh20
  refine r_putI ((hp 67).trans rfl) (pl_o hp0 hw) ?_
  have hw : wf h20 := by rw [eh20]; exact hw.put (pl_np hp0 (by decide))
  change am_R _ _ _ _ _ _ (am_put h19 p0 6 (h19.2.2.2 p1 6)) _
  rw [← eh20]
  refine am_R.next ((hp 70).trans rfl) rfl ?_
  refine am_R.next ((hp 71).trans rfl) rfl ?_
  refine r_getI ((hp 72).trans rfl) (pl_o hp1 hw) ?_
  obtain ⟨h21, eh21⟩ : ∃ z : am_H, z = am_put h20 p0 7 (h20.2.2.2 p1 7) := ⟨_, rfl⟩
  have H := H h21 eh21
  refine r_putI ((hp 75).trans rfl) (pl_o hp0 hw) ?_
  have hw : wf h21 := by rw [eh21]; exact hw.put (pl_np hp0 (by decide))
  change am_R _ _ _ _ _ _ (am_put h20 p0 7 (h20.2.2.2 p1 7)) _
  rw [← eh21]
  refine am_R.next ((hp 78).trans rfl) rfl ?_
  refine am_R.next ((hp 79).trans rfl) rfl ?_
  refine r_getI ((hp 80).trans rfl) (pl_o hp1 hw) ?_
  obtain ⟨c22, H⟩ := H
  obtain ⟨h23, eh23⟩ : ∃ z : am_H, z = am_put h21 p0 8 (h21.2.2.2 p1 8) := ⟨_, rfl⟩
  have H := H h23 eh23
  refine r_putZ ((hp 83).trans rfl) (pl_o hp0 hw) c22 ?_
  have hw : wf h23 := by rw [eh23]; exact hw.put (pl_np hp0 (by decide))
  change am_R _ _ _ _ _ _ (am_put h21 p0 8 (h21.2.2.2 p1 8)) _
  rw [← eh23]
  exact am_R.ret ((hp 86).trans rfl) rfl H
theorem w_Play_has_0 {scr : Nat × (Nat → Int)} {d : Nat} {h : am_H} {Q : Option am_V → am_H → Prop} {x1 : Int} {p0 : Nat} (hp0 : p0 ∈ PL) (hs : am_sc scr) (hw : wf h) (H : (x1 < 0 → (Q (some (.inl 0)) h)) ∧ (¬ (x1 < 0) → (am_isO h (h.2.2.2 p0 0) 1 ∧ ((¬ (x1 < (h.2.2.2 ((h.2.2.2 p0 0).toNat) 4)) → (Q (some (.inl 0)) h)) ∧ (x1 < (h.2.2.2 ((h.2.2.2 p0 0).toNat) 4) → (Q (some (.inl 1)) h)))))) : am_R (am_prog scr) d f_Play_has 0 [some (.inr (.inr ((p0 : Nat) : Int))), some (.inl x1)] [] h Q := by
  have hp : ∀ k, (am_prog scr).1 f_Play_has k = c_Play_has k := fun _ => rfl
  refine am_R.next ((hp 0).trans rfl) rfl ?_
  refine r_if ((hp 1).trans rfl) (fun c3 => ?_) (fun c3 => ?_)
  · have H := H.1 c3
    refine am_R.next ((hp 19).trans rfl) rfl ?_
    exact r_zret ((hp 20).trans rfl) (Or.inl rfl) H
  · have H := H.2 c3
    refine am_R.next ((hp 4).trans rfl) rfl ?_
    refine am_R.next ((hp 5).trans rfl) rfl ?_
    refine r_getR ((hp 6).trans rfl) (pl_o hp0 hw) rfl ?_
    obtain ⟨c1, H⟩ := H
    refine r_getI ((hp 9).trans rfl) c1 ?_
    refine r_ic ((hp 12).trans rfl) (fun c2 => ?_) (fun c2 => ?_)
    · have H := H.1 c2
      refine am_R.next ((hp 19).trans rfl) rfl ?_
      exact r_zret ((hp 20).trans rfl) (Or.inl rfl) H
    · have H := H.2 (Decidable.not_not.mp c2)
      refine am_R.next ((hp 15).trans rfl) rfl ?_
      refine am_R.next ((hp 16).trans rfl) rfl ?_
      exact r_zret ((hp 20).trans rfl) (Or.inr rfl) H
theorem w_Play_hasEnded_0 {scr : Nat × (Nat → Int)} {d : Nat} {h : am_H} {Q : Option am_V → am_H → Prop} {p0 : Nat} (hp0 : p0 ∈ PL) (hs : am_sc scr) (hw : wf h) (H : am_isO h (h.2.2.2 p0 0) 1 ∧ (((h.2.2.2 p0 6) < (h.2.2.2 ((h.2.2.2 p0 0).toNat) 3) → (Q (some (.inl 0)) h)) ∧ (¬ ((h.2.2.2 p0 6) < (h.2.2.2 ((h.2.2.2 p0 0).toNat) 3)) → (Q (some (.inl 1)) h)))) : am_R (am_prog scr) d f_Play_hasEnded 0 [some (.inr (.inr ((p0 : Nat) : Int)))] [] h Q := by
  have hp : ∀ k, (am_prog scr).1 f_Play_hasEnded k = c_Play_hasEnded k := fun _ => rfl
  refine am_R.next ((hp 0).trans rfl) rfl ?_
  refine r_getI ((hp 1).trans rfl) (pl_o hp0 hw) ?_
  refine am_R.next ((hp 4).trans rfl) rfl ?_
  refine r_getR ((hp 5).trans rfl) (pl_o hp0 hw) rfl ?_
  obtain ⟨c1, H⟩ := H
  refine r_getI ((hp 8).trans rfl) c1 ?_
  refine r_ic ((hp 11).trans rfl) (fun c2 => ?_) (fun c2 => ?_)
  · have H := H.1 c2
    refine am_R.next ((hp 18).trans rfl) rfl ?_
    exact r_zret ((hp 19).trans rfl) (Or.inl rfl) H
  · have H := H.2 c2
    refine am_R.next ((hp 14).trans rfl) rfl ?_
    refine am_R.next ((hp 15).trans rfl) rfl ?_
    exact r_zret ((hp 19).trans rfl) (Or.inr rfl) H
theorem w_Play_goesOn_0 {scr : Nat × (Nat → Int)} {d : Nat} {h : am_H} {Q : Option am_V → am_H → Prop} {p0 : Nat} (hp0 : p0 ∈ PL) (hs : am_sc scr) (hw : wf h) (H : (¬ ((h.2.2.2 p0 8) = 0) → (Q (some (.inl 0)) h)) ∧ ((h.2.2.2 p0 8) = 0 → (am_R (am_prog scr) d f_Play_hasEnded 0 [some (.inr (.inr ((p0 : Nat) : Int)))] [] h (fun v g1 => ∃ r2 : Int, v = some (.inl r2) ∧ wf g1 ∧ ((¬ (r2 = 0) → (Q (some (.inl 0)) g1)) ∧ (r2 = 0 → (Q (some (.inl 1)) g1))))))) : am_R (am_prog scr) (d + 1) f_Play_goesOn 0 [some (.inr (.inr ((p0 : Nat) : Int)))] [] h Q := by
  have hp : ∀ k, (am_prog scr).1 f_Play_goesOn k = c_Play_goesOn k := fun _ => rfl
  refine am_R.next ((hp 0).trans rfl) rfl ?_
  refine r_getI ((hp 1).trans rfl) (pl_o hp0 hw) ?_
  refine r_if ((hp 4).trans rfl) (fun c4 => ?_) (fun c4 => ?_)
  · have H := H.1 c4
    refine am_R.next ((hp 18).trans rfl) rfl ?_
    exact r_zret ((hp 19).trans rfl) (Or.inl rfl) H
  · have H := H.2 (Decidable.not_not.mp c4)
    refine am_R.next ((hp 7).trans rfl) rfl ?_
    refine r_cv (bs := []) (st' := []) ((hp 8).trans rfl) (pl_o hp0 hw) rfl rfl (Nat.le_of_ble_eq_true rfl) (Nat.le_of_ble_eq_true rfl) (am_R.post H (fun v g1 hq => ?_))
    obtain ⟨r2, rfl, hw, H⟩ := hq
    change am_R _ _ _ _ _ [.inl r2] _ _
    refine r_if ((hp 11).trans rfl) (fun c3 => ?_) (fun c3 => ?_)
    · have H := H.1 c3
      refine am_R.next ((hp 18).trans rfl) rfl ?_
      exact r_zret ((hp 19).trans rfl) (Or.inl rfl) H
    · have H := H.2 (Decidable.not_not.mp c3)
      refine am_R.next ((hp 14).trans rfl) rfl ?_
      refine am_R.next ((hp 15).trans rfl) rfl ?_
      exact r_zret ((hp 19).trans rfl) (Or.inr rfl) H
theorem w_Play_far_0 {scr : Nat × (Nat → Int)} {d : Nat} {h : am_H} {Q : Option am_V → am_H → Prop} {x1 : Int} {p0 : Nat} (hp0 : p0 ∈ PL) (hs : am_sc scr) (hw : wf h) (H : (¬ ((h.2.2.2 p0 4) = (-1)) → ((0 ≤ x1 ∧ x1 < 6) ∧ ((0 ≤ (h.2.2.2 p0 4) ∧ (h.2.2.2 p0 4) < 6) ∧ (am_R (am_prog scr) d f_jM_abs 0 [some (.inl (am_w ((h.2.2.2 (p0 + 1) x1.toNat) - (h.2.2.2 (p0 + 1) ((h.2.2.2 p0 4).toNat)))))] [] h (fun v g3 => ∃ r4 : Int, v = some (.inl r4) ∧ wf g3 ∧ (Q (some (.inl r4)) g3)))))) ∧ ((h.2.2.2 p0 4) = (-1) → (Q (some (.inl 0)) h))) : am_R (am_prog scr) (d + 1) f_Play_far 0 [some (.inr (.inr ((p0 : Nat) : Int))), some (.inl x1)] [] h Q := by
  have hp : ∀ k, (am_prog scr).1 f_Play_far k = c_Play_far k := fun _ => rfl
  refine am_R.next ((hp 0).trans rfl) rfl ?_
  refine r_getI ((hp 1).trans rfl) (pl_o hp0 hw) ?_
  refine am_R.next ((hp 4).trans rfl) rfl ?_
  refine r_ic ((hp 5).trans rfl) (fun c5 => ?_) (fun c5 => ?_)
  · have H := H.1 c5
    refine am_R.next ((hp 12).trans rfl) rfl ?_
    refine r_getR ((hp 13).trans rfl) (pl_o hp0 hw) (pl_b hp0 hw) ?_
    refine am_R.next ((hp 16).trans rfl) rfl ?_
    obtain ⟨c1, H⟩ := H
    refine r_iald ((hp 17).trans rfl) (pl_ba hp0 hw c1.1 c1.2) ?_
    refine am_R.next ((hp 18).trans rfl) rfl ?_
    refine r_getR ((hp 19).trans rfl) (pl_o hp0 hw) (pl_b hp0 hw) ?_
    refine am_R.next ((hp 22).trans rfl) rfl ?_
    refine r_getI ((hp 23).trans rfl) (pl_o hp0 hw) ?_
    obtain ⟨c2, H⟩ := H
    refine r_iald ((hp 26).trans rfl) (pl_ba hp0 hw c2.1 c2.2) ?_
    refine am_R.next ((hp 27).trans rfl) rfl ?_
    refine r_cs (as := [.inl (am_w ((h.2.2.2 (p0 + 1) x1.toNat) - (h.2.2.2 (p0 + 1) ((h.2.2.2 p0 4).toNat))))]) (st' := []) ((hp 28).trans rfl) rfl rfl (Nat.le_of_ble_eq_true rfl) (Nat.le_of_ble_eq_true rfl) (am_R.post H (fun v g3 hq => ?_))
    obtain ⟨r4, rfl, hw, H⟩ := hq
    change am_R _ _ _ _ _ [.inl r4] _ _
    exact am_R.ret ((hp 31).trans rfl) rfl H
  · have H := H.2 (Decidable.not_not.mp c5)
    refine am_R.next ((hp 8).trans rfl) rfl ?_
    refine am_R.next ((hp 9).trans rfl) rfl ?_
    exact am_R.ret ((hp 31).trans rfl) rfl H
theorem w_Play_swapBeds_0 {scr : Nat × (Nat → Int)} {d : Nat} {h : am_H} {Q : Option am_V → am_H → Prop} {x1 x2 : Int} {p0 : Nat} (hp0 : p0 ∈ PL) (hs : am_sc scr) (hw : wf h) (H : (0 ≤ x1 ∧ x1 < 6) ∧ (∀ y2 : Int, y2 = h.2.2.2 (p0 + 1) x1.toNat → ((0 ≤ x2 ∧ x2 < 6) ∧ (((0 ≤ x1 ∧ x1 < 6)) ∧ (∀ h5 : am_H, h5 = am_put h (p0 + 1) x1.toNat (h.2.2.2 (p0 + 1) x2.toNat) → (((0 ≤ x2 ∧ x2 < 6)) ∧ (∀ h7 : am_H, h7 = am_put h5 (p0 + 1) x2.toNat y2 → (Q none h7)))))))) : am_R (am_prog scr) d f_Play_swapBeds 0 [some (.inr (.inr ((p0 : Nat) : Int))), some (.inl x1), some (.inl x2), none] [] h Q := by
  have hp : ∀ k, (am_prog scr).1 f_Play_swapBeds k = c_Play_swapBeds k := fun _ => rfl
  refine am_R.next ((hp 0).trans rfl) rfl ?_
  refine r_getR ((hp 1).trans rfl) (pl_o hp0 hw) (pl_b hp0 hw) ?_
  refine am_R.next ((hp 4).trans rfl) rfl ?_
  obtain ⟨c1, H⟩ := H
  refine r_iald ((hp 5).trans rfl) (pl_ba hp0 hw c1.1 c1.2) ?_
  obtain ⟨y2, ey2⟩ : ∃ z : Int, z = h.2.2.2 (p0 + 1) x1.toNat := ⟨_, rfl⟩
  have H := H y2 ey2
  refine am_R.next (lv' := [some (.inr (.inr ((p0 : Nat) : Int))), some (.inl x1), some (.inl x2), some (.inl y2)]) (st' := []) (h' := h) (pc' := 7) ((hp 6).trans rfl) (by rw [ey2]; rfl) ?_
  refine am_R.next ((hp 7).trans rfl) rfl ?_
  refine r_getR ((hp 8).trans rfl) (pl_o hp0 hw) (pl_b hp0 hw) ?_
  refine am_R.next ((hp 11).trans rfl) rfl ?_
  refine am_R.next ((hp 12).trans rfl) rfl ?_
  refine r_getR ((hp 13).trans rfl) (pl_o hp0 hw) (pl_b hp0 hw) ?_
  refine am_R.next ((hp 16).trans rfl) rfl ?_
  obtain ⟨c3, H⟩ := H
  refine r_iald ((hp 17).trans rfl) (pl_ba hp0 hw c3.1 c3.2) ?_
  obtain ⟨c4, H⟩ := H
  obtain ⟨h5, eh5⟩ : ∃ z : am_H, z = am_put h (p0 + 1) x1.toNat (h.2.2.2 (p0 + 1) x2.toNat) := ⟨_, rfl⟩
  have H := H h5 eh5
  refine r_iast ((hp 18).trans rfl) (pl_ba hp0 hw c4.1 c4.2) ?_
  have hw : wf h5 := by rw [eh5]; exact hw.pa (pl_lt hp0).2.2.2.2.2.2.1
  change am_R _ _ _ _ _ _ (am_put h (p0 + 1) x1.toNat (h.2.2.2 (p0 + 1) x2.toNat)) _
  rw [← eh5]
  refine am_R.next ((hp 19).trans rfl) rfl ?_
  refine r_getR ((hp 20).trans rfl) (pl_o hp0 hw) (pl_b hp0 hw) ?_
  refine am_R.next ((hp 23).trans rfl) rfl ?_
  refine am_R.next ((hp 24).trans rfl) rfl ?_
  obtain ⟨c6, H⟩ := H
  obtain ⟨h7, eh7⟩ : ∃ z : am_H, z = am_put h5 (p0 + 1) x2.toNat y2 := ⟨_, rfl⟩
  have H := H h7 eh7
  refine r_iast ((hp 25).trans rfl) (pl_ba hp0 hw c6.1 c6.2) ?_
  have hw : wf h7 := by rw [eh7]; exact hw.pa (pl_lt hp0).2.2.2.2.2.2.1
  change am_R _ _ _ _ _ _ (am_put h5 (p0 + 1) x2.toNat y2) _
  rw [← eh7]
  exact am_R.ret ((hp 26).trans rfl) rfl H
theorem w_Play_node_0 {scr : Nat × (Nat → Int)} {d : Nat} {h : am_H} {Q : Option am_V → am_H → Prop} {p0 : Nat} (hp0 : p0 ∈ PL) (hs : am_sc scr) (hw : wf h) (H : ((h.2.2.2 p0 8) = 0 → (Q (some (.inl (am_w ((am_w ((am_w ((am_w ((h.2.2.2 p0 6) * 6)) + (h.2.2.2 p0 5))) * 6)) + (h.2.2.2 p0 4))))) h)) ∧ (¬ ((h.2.2.2 p0 8) = 0) → (Q (some (.inl (am_w (180 + (h.2.2.2 p0 6))))) h))) : am_R (am_prog scr) d f_Play_node 0 [some (.inr (.inr ((p0 : Nat) : Int)))] [] h Q := by
  have hp : ∀ k, (am_prog scr).1 f_Play_node k = c_Play_node k := fun _ => rfl
  refine am_R.next ((hp 0).trans rfl) rfl ?_
  refine r_getI ((hp 1).trans rfl) (pl_o hp0 hw) ?_
  refine r_if ((hp 4).trans rfl) (fun c1 => ?_) (fun c1 => ?_)
  · have H := H.1 c1
    refine am_R.next ((hp 18).trans rfl) rfl ?_
    refine r_getI ((hp 19).trans rfl) (pl_o hp0 hw) ?_
    refine am_R.next ((hp 22).trans rfl) rfl ?_
    refine am_R.next ((hp 24).trans rfl) rfl ?_
    refine am_R.next ((hp 25).trans rfl) rfl ?_
    refine r_getI ((hp 26).trans rfl) (pl_o hp0 hw) ?_
    refine am_R.next ((hp 29).trans rfl) rfl ?_
    refine am_R.next ((hp 30).trans rfl) rfl ?_
    refine am_R.next ((hp 32).trans rfl) rfl ?_
    refine am_R.next ((hp 33).trans rfl) rfl ?_
    refine r_getI ((hp 34).trans rfl) (pl_o hp0 hw) ?_
    refine am_R.next ((hp 37).trans rfl) rfl ?_
    exact am_R.ret ((hp 38).trans rfl) rfl H
  · have H := H.2 c1
    refine am_R.next ((hp 7).trans rfl) rfl ?_
    refine am_R.next ((hp 10).trans rfl) rfl ?_
    refine r_getI ((hp 11).trans rfl) (pl_o hp0 hw) ?_
    refine am_R.next ((hp 14).trans rfl) rfl ?_
    refine am_R.next ((hp 15).trans rfl) rfl ?_
    exact am_R.ret ((hp 38).trans rfl) rfl H
theorem w_Play_standAt_0 {scr : Nat × (Nat → Int)} {d : Nat} {h : am_H} {Q : Option am_V → am_H → Prop} {x1 : Int} {p0 : Nat} (hp0 : p0 ∈ PL) (hs : am_sc scr) (hw : wf h) (H : ∀ h1 : am_H, h1 = am_put h p0 4 (x1.tmod 6) → (∀ h2 : am_H, h2 = am_put h1 p0 5 ((am_w (x1.tdiv 6)).tmod 6) → (∀ h3 : am_H, h3 = am_put h2 p0 6 (am_w (x1.tdiv 36)) → (∀ h4 : am_H, h4 = am_put h3 p0 8 0 → (Q none h4))))) : am_R (am_prog scr) d f_Play_standAt 0 [some (.inr (.inr ((p0 : Nat) : Int))), some (.inl x1)] [] h Q := by
  have hp : ∀ k, (am_prog scr).1 f_Play_standAt k = c_Play_standAt k := fun _ => rfl
  refine am_R.next ((hp 0).trans rfl) rfl ?_
  refine am_R.next ((hp 1).trans rfl) rfl ?_
  refine am_R.next ((hp 2).trans rfl) rfl ?_
  refine r_i2z ((hp 4).trans rfl) (by decide) ?_
  obtain ⟨h1, eh1⟩ : ∃ z : am_H, z = am_put h p0 4 (x1.tmod 6) := ⟨_, rfl⟩
  have H := H h1 eh1
  refine r_putI ((hp 5).trans rfl) (pl_o hp0 hw) ?_
  have hw : wf h1 := by rw [eh1]; exact hw.put (pl_np hp0 (by decide))
  change am_R _ _ _ _ _ _ (am_put h p0 4 (x1.tmod 6)) _
  rw [← eh1]
  refine am_R.next ((hp 8).trans rfl) rfl ?_
  refine am_R.next ((hp 9).trans rfl) rfl ?_
  refine am_R.next ((hp 10).trans rfl) rfl ?_
  refine r_i2z ((hp 12).trans rfl) (by decide) ?_
  refine am_R.next ((hp 13).trans rfl) rfl ?_
  refine r_i2z ((hp 15).trans rfl) (by decide) ?_
  obtain ⟨h2, eh2⟩ : ∃ z : am_H, z = am_put h1 p0 5 ((am_w (x1.tdiv 6)).tmod 6) := ⟨_, rfl⟩
  have H := H h2 eh2
  refine r_putI ((hp 16).trans rfl) (pl_o hp0 hw) ?_
  have hw : wf h2 := by rw [eh2]; exact hw.put (pl_np hp0 (by decide))
  change am_R _ _ _ _ _ _ (am_put h1 p0 5 ((am_w (x1.tdiv 6)).tmod 6)) _
  rw [← eh2]
  refine am_R.next ((hp 19).trans rfl) rfl ?_
  refine am_R.next ((hp 20).trans rfl) rfl ?_
  refine am_R.next ((hp 21).trans rfl) rfl ?_
  refine r_i2z ((hp 23).trans rfl) (by decide) ?_
  obtain ⟨h3, eh3⟩ : ∃ z : am_H, z = am_put h2 p0 6 (am_w (x1.tdiv 36)) := ⟨_, rfl⟩
  have H := H h3 eh3
  refine r_putI ((hp 24).trans rfl) (pl_o hp0 hw) ?_
  have hw : wf h3 := by rw [eh3]; exact hw.put (pl_np hp0 (by decide))
  change am_R _ _ _ _ _ _ (am_put h2 p0 6 (am_w (x1.tdiv 36))) _
  rw [← eh3]
  refine am_R.next ((hp 27).trans rfl) rfl ?_
  refine am_R.next ((hp 28).trans rfl) rfl ?_
  obtain ⟨h4, eh4⟩ : ∃ z : am_H, z = am_put h3 p0 8 0 := ⟨_, rfl⟩
  have H := H h4 eh4
  refine r_putZ ((hp 29).trans rfl) (pl_o hp0 hw) (Or.inl rfl) ?_
  have hw : wf h4 := by rw [eh4]; exact hw.put (pl_np hp0 (by decide))
  change am_R _ _ _ _ _ _ (am_put h3 p0 8 0) _
  rw [← eh4]
  exact am_R.ret ((hp 32).trans rfl) rfl H
theorem w_Play_setting_0 {scr : Nat × (Nat → Int)} {d : Nat} {h : am_H} {Q : Option am_V → am_H → Prop} {p0 : Nat} (hp0 : p0 ∈ PL) (hs : am_sc scr) (hw : wf h) (H : am_isO h (h.2.2.2 p0 0) 1 ∧ (∀ y2 : Int, y2 = h.2.2.2 ((h.2.2.2 p0 0).toNat) 0 → (am_R (am_prog scr) d f_Play_setting 11 [some (.inr (.inr ((p0 : Nat) : Int))), some (.inr (.inl y2)), none, some (.inl 0)] [] h Q))) : am_R (am_prog scr) d f_Play_setting 0 [some (.inr (.inr ((p0 : Nat) : Int))), none, none, none] [] h Q := by
  have hp : ∀ k, (am_prog scr).1 f_Play_setting k = c_Play_setting k := fun _ => rfl
  refine am_R.next ((hp 0).trans rfl) rfl ?_
  refine r_getR ((hp 1).trans rfl) (pl_o hp0 hw) rfl ?_
  obtain ⟨c1, H⟩ := H
  refine r_getI ((hp 4).trans rfl) c1 ?_
  refine am_R.next ((hp 7).trans rfl) rfl ?_
  obtain ⟨y2, ey2⟩ : ∃ z : Int, z = h.2.2.2 ((h.2.2.2 p0 0).toNat) 0 := ⟨_, rfl⟩
  have H := H y2 ey2
  refine am_R.next (lv' := [some (.inr (.inr ((p0 : Nat) : Int))), some (.inr (.inl y2)), none, none]) (st' := []) (h' := h) (pc' := 9) ((hp 8).trans rfl) (by rw [ey2]; rfl) ?_
  refine am_R.next ((hp 9).trans rfl) rfl ?_
  refine am_R.next (lv' := [some (.inr (.inr ((p0 : Nat) : Int))), some (.inr (.inl y2)), none, some (.inl 0)]) ((hp 10).trans rfl) rfl ?_
  exact H
theorem w_Play_setting_11 {scr : Nat × (Nat → Int)} {d : Nat} {h : am_H} {Q : Option am_V → am_H → Prop} {x1 x3 : Int} {p0 : Nat} (hp0 : p0 ∈ PL) (hs : am_sc scr) (hw : wf h) (H : (¬ (x3 < 6) → (Q (some (.inr (.inl (am_lor (am_lshl x1 4) (h.2.2.2 p0 3))))) h)) ∧ (x3 < 6 → ((0 ≤ x3 ∧ x3 < 6) ∧ ((0 ≤ x3 ∧ x3 < 6) ∧ (∀ y3 : Int, y3 = am_lor (am_lor (am_lshl x1 7) (am_shl (h.2.2.2 (p0 + 1) x3.toNat) 4)) (h.2.2.2 (p0 + 2) x3.toNat) → (∀ y4 : Int, y4 = am_w (x3 + 1) → (am_R (am_prog scr) d f_Play_setting 11 [some (.inr (.inr ((p0 : Nat) : Int))), some (.inr (.inl y3)), none, some (.inl y4)] [] h Q))))))) : am_R (am_prog scr) d f_Play_setting 11 [some (.inr (.inr ((p0 : Nat) : Int))), some (.inr (.inl x1)), none, some (.inl x3)] [] h Q := by
  have hp : ∀ k, (am_prog scr).1 f_Play_setting k = c_Play_setting k := fun _ => rfl
  refine am_R.next ((hp 11).trans rfl) rfl ?_
  refine am_R.next ((hp 12).trans rfl) rfl ?_
  refine r_ic ((hp 14).trans rfl) (fun c5 => ?_) (fun c5 => ?_)
  · have H := H.1 c5
    refine am_R.next ((hp 46).trans rfl) rfl ?_
    refine am_R.next ((hp 47).trans rfl) rfl ?_
    refine am_R.next ((hp 48).trans rfl) rfl ?_
    refine am_R.next ((hp 49).trans rfl) rfl ?_
    refine r_getI ((hp 50).trans rfl) (pl_o hp0 hw) ?_
    refine am_R.next ((hp 53).trans rfl) rfl ?_
    refine am_R.next ((hp 54).trans rfl) rfl ?_
    exact am_R.ret ((hp 55).trans rfl) rfl H
  · have H := H.2 (Decidable.not_not.mp c5)
    refine am_R.next ((hp 17).trans rfl) rfl ?_
    refine am_R.next ((hp 18).trans rfl) rfl ?_
    refine am_R.next ((hp 20).trans rfl) rfl ?_
    refine am_R.next ((hp 21).trans rfl) rfl ?_
    refine r_getR ((hp 22).trans rfl) (pl_o hp0 hw) (pl_b hp0 hw) ?_
    refine am_R.next ((hp 25).trans rfl) rfl ?_
    obtain ⟨c1, H⟩ := H
    refine r_iald ((hp 26).trans rfl) (pl_ba hp0 hw c1.1 c1.2) ?_
    refine am_R.next ((hp 27).trans rfl) rfl ?_
    refine am_R.next ((hp 28).trans rfl) rfl ?_
    refine am_R.next ((hp 29).trans rfl) rfl ?_
    refine am_R.next ((hp 30).trans rfl) rfl ?_
    refine am_R.next ((hp 31).trans rfl) rfl ?_
    refine r_getR ((hp 32).trans rfl) (pl_o hp0 hw) (pl_d hp0 hw) ?_
    refine am_R.next ((hp 35).trans rfl) rfl ?_
    obtain ⟨c2, H⟩ := H
    refine r_iald ((hp 36).trans rfl) (pl_da hp0 hw c2.1 c2.2) ?_
    refine am_R.next ((hp 37).trans rfl) rfl ?_
    refine am_R.next ((hp 38).trans rfl) rfl ?_
    obtain ⟨y3, ey3⟩ : ∃ z : Int, z = am_lor (am_lor (am_lshl x1 7) (am_shl (h.2.2.2 (p0 + 1) x3.toNat) 4)) (h.2.2.2 (p0 + 2) x3.toNat) := ⟨_, rfl⟩
    have H := H y3 ey3
    refine am_R.next (lv' := [some (.inr (.inr ((p0 : Nat) : Int))), some (.inr (.inl y3)), none, some (.inl x3)]) (st' := []) (h' := h) (pc' := 40) ((hp 39).trans rfl) (by rw [ey3]; rfl) ?_
    obtain ⟨y4, ey4⟩ : ∃ z : Int, z = am_w (x3 + 1) := ⟨_, rfl⟩
    have H := H y4 ey4
    refine am_R.next (lv' := [some (.inr (.inr ((p0 : Nat) : Int))), some (.inr (.inl y3)), none, some (.inl y4)]) (st' := []) (h' := h) (pc' := 43) ((hp 40).trans rfl) (by rw [ey4]; rfl) ?_
    refine am_R.next ((hp 43).trans rfl) rfl ?_
    exact H
theorem w_Reader_faultKind_0 {scr : Nat × (Nat → Int)} {d : Nat} {h : am_H} {Q : Option am_V → am_H → Prop} (hs : am_sc scr) (hw : wf h) (H : Q (some (.inl (h.2.2.2 3 6))) h) : am_R (am_prog scr) d f_Reader_faultKind 0 [some (.inr (.inr ((2 : Nat) : Int)))] [] h Q := by
  have hp : ∀ k, (am_prog scr).1 f_Reader_faultKind k = c_Reader_faultKind k := fun _ => rfl
  refine am_R.next ((hp 0).trans rfl) rfl ?_
  refine r_getR ((hp 1).trans rfl) (hw.o (i := 2) (by decide) rfl) (hw.r wr_2_0) ?_
  refine r_getI ((hp 4).trans rfl) (hw.o (i := 3) (by decide) rfl) ?_
  exact am_R.ret ((hp 7).trans rfl) rfl H
theorem w_Reader_faultPlace_0 {scr : Nat × (Nat → Int)} {d : Nat} {h : am_H} {Q : Option am_V → am_H → Prop} (hs : am_sc scr) (hw : wf h) (H : Q (some (.inl (h.2.2.2 3 7))) h) : am_R (am_prog scr) d f_Reader_faultPlace 0 [some (.inr (.inr ((2 : Nat) : Int)))] [] h Q := by
  have hp : ∀ k, (am_prog scr).1 f_Reader_faultPlace k = c_Reader_faultPlace k := fun _ => rfl
  refine am_R.next ((hp 0).trans rfl) rfl ?_
  refine r_getR ((hp 1).trans rfl) (hw.o (i := 2) (by decide) rfl) (hw.r wr_2_0) ?_
  refine r_getI ((hp 4).trans rfl) (hw.o (i := 3) (by decide) rfl) ?_
  exact am_R.ret ((hp 7).trans rfl) rfl H
theorem w_Reader_readText_0 {scr : Nat × (Nat → Int)} {d : Nat} {h : am_H} {Q : Option am_V → am_H → Prop} {x2 x3 a1 : Int} (hs : am_sc scr) (hw : wf h) (H : am_R (am_prog scr) d f_Tokens_begin 0 [some (.inr (.inr ((3 : Nat) : Int))), some (.inr (.inr a1)), some (.inl x2)] [] h (fun v g1 => v = none ∧ wf g1 ∧ (∀ h2 : am_H, h2 = am_mk g1 11 14 (am_nz 1) → (am_isO h2 ((g1.1 : Nat) : Int) 1 ∧ (am_R (am_prog scr) d f_House_init 0 [some (.inr (.inr ((g1.1 : Nat) : Int))), some (.inl x3)] [] h2 (fun v g3 => v = none ∧ wf g3 ∧ (∀ h5 : am_H, h5 = am_put g3 2 3 ((g1.1 : Nat) : Int) → (am_R (am_prog scr) d f_Reader_readHead 0 [some (.inr (.inr ((2 : Nat) : Int)))] [] h5 (fun v g6 => v = none ∧ wf g6 ∧ (am_R (am_prog scr) (d + 1) f_Reader_readText 28 [some (.inr (.inr ((2 : Nat) : Int))), some (.inr (.inr a1)), some (.inl x2), some (.inl x3), some (.inl 0)] [] g6 Q)))))))))) : am_R (am_prog scr) (d + 1) f_Reader_readText 0 [some (.inr (.inr ((2 : Nat) : Int))), some (.inr (.inr a1)), some (.inl x2), some (.inl x3), none] [] h Q := by
  have hp : ∀ k, (am_prog scr).1 f_Reader_readText k = c_Reader_readText k := fun _ => rfl
  refine am_R.next ((hp 0).trans rfl) rfl ?_
  refine r_getR ((hp 1).trans rfl) (hw.o (i := 2) (by decide) rfl) (hw.r wr_2_0) ?_
  refine am_R.next ((hp 4).trans rfl) rfl ?_
  refine am_R.next ((hp 5).trans rfl) rfl ?_
  refine r_cv (bs := [.inr (.inr a1), .inl x2]) (st' := []) ((hp 6).trans rfl) (hw.o (i := 3) (by decide) rfl) rfl rfl (Nat.le_of_ble_eq_true rfl) (Nat.le_of_ble_eq_true rfl) (am_R.post H (fun v g1 hq => ?_))
  obtain ⟨rfl, hw, H⟩ := hq
  change am_R _ _ _ _ _ [] _ _
  refine am_R.next ((hp 9).trans rfl) rfl ?_
  obtain ⟨h2, eh2⟩ : ∃ z : am_H, z = am_mk g1 11 14 (am_nz 1) := ⟨_, rfl⟩
  have H := H h2 eh2
  have hw : wf h2 := by rw [eh2]; exact hw.mk
  refine am_R.next ((hp 10).trans rfl) rfl ?_
  change am_R _ _ _ _ _ _ (am_mk g1 11 14 (am_nz 1)) _
  rw [← eh2]
  refine am_R.next ((hp 13).trans rfl) rfl ?_
  refine am_R.next ((hp 14).trans rfl) rfl ?_
  obtain ⟨c4, H⟩ := H
  refine r_cv (bs := [.inl x3]) (st' := [.inr (.inr ((g1.1 : Nat) : Int)), .inr (.inr ((2 : Nat) : Int))]) ((hp 15).trans rfl) c4 rfl rfl (Nat.le_of_ble_eq_true rfl) (Nat.le_of_ble_eq_true rfl) (am_R.post H (fun v g3 hq => ?_))
  obtain ⟨rfl, hw, H⟩ := hq
  change am_R _ _ _ _ _ [.inr (.inr ((g1.1 : Nat) : Int)), .inr (.inr ((2 : Nat) : Int))] _ _
  obtain ⟨h5, eh5⟩ : ∃ z : am_H, z = am_put g3 2 3 ((g1.1 : Nat) : Int) := ⟨_, rfl⟩
  have H := H h5 eh5
  refine r_putR ((hp 18).trans rfl) (hw.o (i := 2) (by decide) rfl) (by omega) ?_
  have hw : wf h5 := by rw [eh5]; exact hw.put np_2_3
  change am_R _ _ _ _ _ _ (am_put g3 2 3 ((g1.1 : Nat) : Int)) _
  rw [← eh5]
  refine am_R.next ((hp 21).trans rfl) rfl ?_
  refine r_cv (bs := []) (st' := []) ((hp 22).trans rfl) (hw.o (i := 2) (by decide) rfl) rfl rfl (Nat.le_of_ble_eq_true rfl) (Nat.le_of_ble_eq_true rfl) (am_R.post H (fun v g6 hq => ?_))
  obtain ⟨rfl, hw, H⟩ := hq
  change am_R _ _ _ _ _ [] _ _
  refine am_R.next ((hp 25).trans rfl) rfl ?_
  refine am_R.next (lv' := [some (.inr (.inr ((2 : Nat) : Int))), some (.inr (.inr a1)), some (.inl x2), some (.inl x3), some (.inl 0)]) ((hp 26).trans rfl) rfl ?_
  exact H
theorem w_Reader_readText_28 {scr : Nat × (Nat → Int)} {d : Nat} {h : am_H} {Q : Option am_V → am_H → Prop} {x2 x3 x4 a1 : Int} (hs : am_sc scr) (hw : wf h) (H : (¬ (x4 < 900) → (am_R (am_prog scr) (d + 1) f_Reader_readText 66 [some (.inr (.inr ((2 : Nat) : Int))), some (.inr (.inr a1)), some (.inl x2), some (.inl x3), some (.inl x4)] [] h Q)) ∧ (x4 < 900 → (am_R (am_prog scr) d f_Tokens_isFaultless 0 [some (.inr (.inr ((3 : Nat) : Int)))] [] h (fun v g1 => ∃ r2 : Int, v = some (.inl r2) ∧ wf g1 ∧ ((r2 = 0 → (am_R (am_prog scr) (d + 1) f_Reader_readText 66 [some (.inr (.inr ((2 : Nat) : Int))), some (.inr (.inr a1)), some (.inl x2), some (.inl x3), some (.inl x4)] [] g1 Q)) ∧ (¬ (r2 = 0) → (am_R (am_prog scr) d f_Tokens_atEnd 0 [some (.inr (.inr ((3 : Nat) : Int)))] [] g1 (fun v g3 => ∃ r4 : Int, v = some (.inl r4) ∧ wf g3 ∧ ((¬ (r4 = 0) → (am_R (am_prog scr) (d + 1) f_Reader_readText 66 [some (.inr (.inr ((2 : Nat) : Int))), some (.inr (.inr a1)), some (.inl x2), some (.inl x3), some (.inl x4)] [] g3 Q)) ∧ (r4 = 0 → (am_R (am_prog scr) d f_Reader_readLine 0 [some (.inr (.inr ((2 : Nat) : Int)))] [] g3 (fun v g5 => v = none ∧ wf g5 ∧ (∀ y6 : Int, y6 = am_w (x4 + 1) → (am_R (am_prog scr) (d + 1) f_Reader_readText 28 [some (.inr (.inr ((2 : Nat) : Int))), some (.inr (.inr a1)), some (.inl x2), some (.inl x3), some (.inl y6)] [] g5 Q)))))))))))))) : am_R (am_prog scr) (d + 1) f_Reader_readText 28 [some (.inr (.inr ((2 : Nat) : Int))), some (.inr (.inr a1)), some (.inl x2), some (.inl x3), some (.inl x4)] [] h Q := by
  have hp : ∀ k, (am_prog scr).1 f_Reader_readText k = c_Reader_readText k := fun _ => rfl
  refine am_R.next ((hp 28).trans rfl) rfl ?_
  refine am_R.next ((hp 30).trans rfl) rfl ?_
  refine r_ic ((hp 33).trans rfl) (fun c9 => ?_) (fun c9 => ?_)
  · have H := H.1 c9
    exact H
  · have H := H.2 (Decidable.not_not.mp c9)
    refine am_R.next ((hp 36).trans rfl) rfl ?_
    refine r_getR ((hp 37).trans rfl) (hw.o (i := 2) (by decide) rfl) (hw.r wr_2_0) ?_
    refine r_cv (bs := []) (st' := []) ((hp 40).trans rfl) (hw.o (i := 3) (by decide) rfl) rfl rfl (Nat.le_of_ble_eq_true rfl) (Nat.le_of_ble_eq_true rfl) (am_R.post H (fun v g1 hq => ?_))
    obtain ⟨r2, rfl, hw, H⟩ := hq
    change am_R _ _ _ _ _ [.inl r2] _ _
    refine r_if ((hp 43).trans rfl) (fun c8 => ?_) (fun c8 => ?_)
    · have H := H.1 c8
      exact H
    · have H := H.2 c8
      refine am_R.next ((hp 46).trans rfl) rfl ?_
      refine r_getR ((hp 47).trans rfl) (hw.o (i := 2) (by decide) rfl) (hw.r wr_2_0) ?_
      refine r_cv (bs := []) (st' := []) ((hp 50).trans rfl) (hw.o (i := 3) (by decide) rfl) rfl rfl (Nat.le_of_ble_eq_true rfl) (Nat.le_of_ble_eq_true rfl) (am_R.post H (fun v g3 hq => ?_))
      obtain ⟨r4, rfl, hw, H⟩ := hq
      change am_R _ _ _ _ _ [.inl r4] _ _
      refine r_if ((hp 53).trans rfl) (fun c7 => ?_) (fun c7 => ?_)
      · have H := H.1 c7
        exact H
      · have H := H.2 (Decidable.not_not.mp c7)
        refine am_R.next ((hp 56).trans rfl) rfl ?_
        refine r_cv (bs := []) (st' := []) ((hp 57).trans rfl) (hw.o (i := 2) (by decide) rfl) rfl rfl (Nat.le_of_ble_eq_true rfl) (Nat.le_of_ble_eq_true rfl) (am_R.post H (fun v g5 hq => ?_))
        obtain ⟨rfl, hw, H⟩ := hq
        change am_R _ _ _ _ _ [] _ _
        obtain ⟨y6, ey6⟩ : ∃ z : Int, z = am_w (x4 + 1) := ⟨_, rfl⟩
        have H := H y6 ey6
        refine am_R.next (lv' := [some (.inr (.inr ((2 : Nat) : Int))), some (.inr (.inr a1)), some (.inl x2), some (.inl x3), some (.inl y6)]) (st' := []) (h' := g5) (pc' := 63) ((hp 60).trans rfl) (by rw [ey6]; rfl) ?_
        refine am_R.next ((hp 63).trans rfl) rfl ?_
        exact H
theorem w_Reader_readText_66 {scr : Nat × (Nat → Int)} {d : Nat} {h : am_H} {Q : Option am_V → am_H → Prop} {x2 x3 x4 a1 : Int} (hs : am_sc scr) (hw : wf h) (H : am_R (am_prog scr) d f_Tokens_isFaultless 0 [some (.inr (.inr ((3 : Nat) : Int)))] [] h (fun v g1 => ∃ r2 : Int, v = some (.inl r2) ∧ wf g1 ∧ ((r2 = 0 → (-1 ≤ (-1) ∧ Q (some (.inr (.inr (-1)))) g1)) ∧ (¬ (r2 = 0) → (-1 ≤ (g1.2.2.2 2 3) ∧ Q (some (.inr (.inr (g1.2.2.2 2 3)))) g1))))) : am_R (am_prog scr) (d + 1) f_Reader_readText 66 [some (.inr (.inr ((2 : Nat) : Int))), some (.inr (.inr a1)), some (.inl x2), some (.inl x3), some (.inl x4)] [] h Q := by
  have hp : ∀ k, (am_prog scr).1 f_Reader_readText k = c_Reader_readText k := fun _ => rfl
  refine am_R.next ((hp 66).trans rfl) rfl ?_
  refine r_getR ((hp 67).trans rfl) (hw.o (i := 2) (by decide) rfl) (hw.r wr_2_0) ?_
  refine r_cv (bs := []) (st' := []) ((hp 70).trans rfl) (hw.o (i := 3) (by decide) rfl) rfl rfl (Nat.le_of_ble_eq_true rfl) (Nat.le_of_ble_eq_true rfl) (am_R.post H (fun v g1 hq => ?_))
  obtain ⟨r2, rfl, hw, H⟩ := hq
  change am_R _ _ _ _ _ [.inl r2] _ _
  refine r_if ((hp 73).trans rfl) (fun c5 => ?_) (fun c5 => ?_)
  · have H := H.1 c5
    refine am_R.next ((hp 83).trans rfl) rfl ?_
    obtain ⟨c3, H⟩ := H
    exact r_aret ((hp 84).trans rfl) c3 H
  · have H := H.2 c5
    refine am_R.next ((hp 76).trans rfl) rfl ?_
    refine r_getR ((hp 77).trans rfl) (hw.o (i := 2) (by decide) rfl) rfl ?_
    refine am_R.next ((hp 80).trans rfl) rfl ?_
    obtain ⟨c4, H⟩ := H
    exact r_aret ((hp 84).trans rfl) c4 H
theorem w_Reader_readHead_0 {scr : Nat × (Nat → Int)} {d : Nat} {h : am_H} {Q : Option am_V → am_H → Prop} (hs : am_sc scr) (hw : wf h) (H : am_R (am_prog scr) d f_Tokens_want 0 [some (.inr (.inr ((3 : Nat) : Int))), some (.inr (.inr (-3)))] [] h (fun v g1 => v = none ∧ wf g1 ∧ (am_R (am_prog scr) d f_Tokens_want 0 [some (.inr (.inr ((3 : Nat) : Int))), some (.inr (.inr (-4)))] [] g1 (fun v g2 => v = none ∧ wf g2 ∧ (am_R (am_prog scr) d f_Tokens_wantNumber 0 [some (.inr (.inr ((3 : Nat) : Int))), some (.inl 1), some (.inl 6), none] [] g2 (fun v g3 => ∃ r4 : Int, v = some (.inl r4) ∧ wf g3 ∧ ((am_isO g3 (g2.2.2.2 2 3) 1) ∧ ((∀ q ∈ wr_l, ¬ (q.1 = ((g2.2.2.2 2 3).toNat) ∧ q.2.1 = 1)) ∧ (∀ h7 : am_H, h7 = am_put g3 ((g2.2.2.2 2 3).toNat) 1 r4 → (am_R (am_prog scr) d f_Tokens_want 0 [some (.inr (.inr ((3 : Nat) : Int))), some (.inr (.inr (-5)))] [] h7 (fun v g8 => v = none ∧ wf g8 ∧ (am_R (am_prog scr) d f_Tokens_wantNumber 0 [some (.inr (.inr ((3 : Nat) : Int))), some (.inl 1), some (.inl 6), none] [] g8 (fun v g9 => ∃ r10 : Int, v = some (.inl r10) ∧ wf g9 ∧ ((am_isO g9 (g8.2.2.2 2 3) 1) ∧ ((∀ q ∈ wr_l, ¬ (q.1 = ((g8.2.2.2 2 3).toNat) ∧ q.2.1 = 2)) ∧ (∀ h13 : am_H, h13 = am_put g9 ((g8.2.2.2 2 3).toNat) 2 r10 → (am_R (am_prog scr) d f_Tokens_want 0 [some (.inr (.inr ((3 : Nat) : Int))), some (.inr (.inr (-6)))] [] h13 (fun v g14 => v = none ∧ wf g14 ∧ (am_R (am_prog scr) d f_Tokens_wantNumber 0 [some (.inr (.inr ((3 : Nat) : Int))), some (.inl 1), some (.inl 4), none] [] g14 (fun v g15 => ∃ r16 : Int, v = some (.inl r16) ∧ wf g15 ∧ ((am_isO g15 (g14.2.2.2 2 3) 1) ∧ ((∀ q ∈ wr_l, ¬ (q.1 = ((g14.2.2.2 2 3).toNat) ∧ q.2.1 = 3)) ∧ (∀ h19 : am_H, h19 = am_put g15 ((g14.2.2.2 2 3).toNat) 3 r16 → (am_R (am_prog scr) d f_Tokens_want 0 [some (.inr (.inr ((3 : Nat) : Int))), some (.inr (.inr (-7)))] [] h19 (fun v g20 => v = none ∧ wf g20 ∧ ((am_isO g20 (g20.2.2.2 2 3) 1) ∧ ((∀ q ∈ wr_l, ¬ (q.1 = ((g20.2.2.2 2 3).toNat) ∧ q.2.1 = 11)) ∧ (∀ h23 : am_H, h23 = am_put g20 ((g20.2.2.2 2 3).toNat) 11 1 → (Q none h23))))))))))))))))))))))))))))) : am_R (am_prog scr) (d + 1) f_Reader_readHead 0 [some (.inr (.inr ((2 : Nat) : Int)))] [] h Q := by
  have hp : ∀ k, (am_prog scr).1 f_Reader_readHead k = c_Reader_readHead k := fun _ => rfl
  refine am_R.next ((hp 0).trans rfl) rfl ?_
  refine r_getR ((hp 1).trans rfl) (hw.o (i := 2) (by decide) rfl) (hw.r wr_2_0) ?_
  refine am_R.next ((hp 4).trans rfl) rfl ?_
  refine r_cv (bs := [.inr (.inr (-3))]) (st' := []) ((hp 6).trans rfl) (hw.o (i := 3) (by decide) rfl) rfl rfl (Nat.le_of_ble_eq_true rfl) (Nat.le_of_ble_eq_true rfl) (am_R.post H (fun v g1 hq => ?_))
  obtain ⟨rfl, hw, H⟩ := hq
  change am_R _ _ _ _ _ [] _ _
  refine am_R.next ((hp 9).trans rfl) rfl ?_
  refine r_getR ((hp 10).trans rfl) (hw.o (i := 2) (by decide) rfl) (hw.r wr_2_0) ?_
  refine am_R.next ((hp 13).trans rfl) rfl ?_
  refine r_cv (bs := [.inr (.inr (-4))]) (st' := []) ((hp 15).trans rfl) (hw.o (i := 3) (by decide) rfl) rfl rfl (Nat.le_of_ble_eq_true rfl) (Nat.le_of_ble_eq_true rfl) (am_R.post H (fun v g2 hq => ?_))
  obtain ⟨rfl, hw, H⟩ := hq
  change am_R _ _ _ _ _ [] _ _
  refine am_R.next ((hp 18).trans rfl) rfl ?_
  refine r_getR ((hp 19).trans rfl) (hw.o (i := 2) (by decide) rfl) rfl ?_
  refine am_R.next ((hp 22).trans rfl) rfl ?_
  refine r_getR ((hp 23).trans rfl) (hw.o (i := 2) (by decide) rfl) (hw.r wr_2_0) ?_
  refine am_R.next ((hp 26).trans rfl) rfl ?_
  refine am_R.next ((hp 27).trans rfl) rfl ?_
  refine r_cv (bs := [.inl 1, .inl 6]) (st' := [.inr (.inr (g2.2.2.2 2 3))]) ((hp 29).trans rfl) (hw.o (i := 3) (by decide) rfl) rfl rfl (Nat.le_of_ble_eq_true rfl) (Nat.le_of_ble_eq_true rfl) (am_R.post H (fun v g3 hq => ?_))
  obtain ⟨r4, rfl, hw, H⟩ := hq
  change am_R _ _ _ _ _ [.inl r4, .inr (.inr (g2.2.2.2 2 3))] _ _
  obtain ⟨c5, H⟩ := H
  obtain ⟨c6, H⟩ := H
  obtain ⟨h7, eh7⟩ : ∃ z : am_H, z = am_put g3 ((g2.2.2.2 2 3).toNat) 1 r4 := ⟨_, rfl⟩
  have H := H h7 eh7
  refine r_putI ((hp 32).trans rfl) c5 ?_
  have hw : wf h7 := by rw [eh7]; exact hw.put c6
  change am_R _ _ _ _ _ _ (am_put g3 ((g2.2.2.2 2 3).toNat) 1 r4) _
  rw [← eh7]
  refine am_R.next ((hp 35).trans rfl) rfl ?_
  refine r_getR ((hp 36).trans rfl) (hw.o (i := 2) (by decide) rfl) (hw.r wr_2_0) ?_
  refine am_R.next ((hp 39).trans rfl) rfl ?_
  refine r_cv (bs := [.inr (.inr (-5))]) (st' := []) ((hp 41).trans rfl) (hw.o (i := 3) (by decide) rfl) rfl rfl (Nat.le_of_ble_eq_true rfl) (Nat.le_of_ble_eq_true rfl) (am_R.post H (fun v g8 hq => ?_))
  obtain ⟨rfl, hw, H⟩ := hq
  change am_R _ _ _ _ _ [] _ _
  refine am_R.next ((hp 44).trans rfl) rfl ?_
  refine r_getR ((hp 45).trans rfl) (hw.o (i := 2) (by decide) rfl) rfl ?_
  refine am_R.next ((hp 48).trans rfl) rfl ?_
  refine r_getR ((hp 49).trans rfl) (hw.o (i := 2) (by decide) rfl) (hw.r wr_2_0) ?_
  refine am_R.next ((hp 52).trans rfl) rfl ?_
  refine am_R.next ((hp 53).trans rfl) rfl ?_
  refine r_cv (bs := [.inl 1, .inl 6]) (st' := [.inr (.inr (g8.2.2.2 2 3))]) ((hp 55).trans rfl) (hw.o (i := 3) (by decide) rfl) rfl rfl (Nat.le_of_ble_eq_true rfl) (Nat.le_of_ble_eq_true rfl) (am_R.post H (fun v g9 hq => ?_))
  obtain ⟨r10, rfl, hw, H⟩ := hq
  change am_R _ _ _ _ _ [.inl r10, .inr (.inr (g8.2.2.2 2 3))] _ _
  obtain ⟨c11, H⟩ := H
  obtain ⟨c12, H⟩ := H
  obtain ⟨h13, eh13⟩ : ∃ z : am_H, z = am_put g9 ((g8.2.2.2 2 3).toNat) 2 r10 := ⟨_, rfl⟩
  have H := H h13 eh13
  refine r_putI ((hp 58).trans rfl) c11 ?_
  have hw : wf h13 := by rw [eh13]; exact hw.put c12
  change am_R _ _ _ _ _ _ (am_put g9 ((g8.2.2.2 2 3).toNat) 2 r10) _
  rw [← eh13]
  refine am_R.next ((hp 61).trans rfl) rfl ?_
  refine r_getR ((hp 62).trans rfl) (hw.o (i := 2) (by decide) rfl) (hw.r wr_2_0) ?_
  refine am_R.next ((hp 65).trans rfl) rfl ?_
  refine r_cv (bs := [.inr (.inr (-6))]) (st' := []) ((hp 67).trans rfl) (hw.o (i := 3) (by decide) rfl) rfl rfl (Nat.le_of_ble_eq_true rfl) (Nat.le_of_ble_eq_true rfl) (am_R.post H (fun v g14 hq => ?_))
  obtain ⟨rfl, hw, H⟩ := hq
  change am_R _ _ _ _ _ [] _ _
  refine am_R.next ((hp 70).trans rfl) rfl ?_
  refine r_getR ((hp 71).trans rfl) (hw.o (i := 2) (by decide) rfl) rfl ?_
  refine am_R.next ((hp 74).trans rfl) rfl ?_
  refine r_getR ((hp 75).trans rfl) (hw.o (i := 2) (by decide) rfl) (hw.r wr_2_0) ?_
  refine am_R.next ((hp 78).trans rfl) rfl ?_
  refine am_R.next ((hp 79).trans rfl) rfl ?_
  refine r_cv (bs := [.inl 1, .inl 4]) (st' := [.inr (.inr (g14.2.2.2 2 3))]) ((hp 80).trans rfl) (hw.o (i := 3) (by decide) rfl) rfl rfl (Nat.le_of_ble_eq_true rfl) (Nat.le_of_ble_eq_true rfl) (am_R.post H (fun v g15 hq => ?_))
  obtain ⟨r16, rfl, hw, H⟩ := hq
  change am_R _ _ _ _ _ [.inl r16, .inr (.inr (g14.2.2.2 2 3))] _ _
  obtain ⟨c17, H⟩ := H
  obtain ⟨c18, H⟩ := H
  obtain ⟨h19, eh19⟩ : ∃ z : am_H, z = am_put g15 ((g14.2.2.2 2 3).toNat) 3 r16 := ⟨_, rfl⟩
  have H := H h19 eh19
  refine r_putI ((hp 83).trans rfl) c17 ?_
  have hw : wf h19 := by rw [eh19]; exact hw.put c18
  change am_R _ _ _ _ _ _ (am_put g15 ((g14.2.2.2 2 3).toNat) 3 r16) _
  rw [← eh19]
  refine am_R.next ((hp 86).trans rfl) rfl ?_
  refine r_getR ((hp 87).trans rfl) (hw.o (i := 2) (by decide) rfl) (hw.r wr_2_0) ?_
  refine am_R.next ((hp 90).trans rfl) rfl ?_
  refine r_cv (bs := [.inr (.inr (-7))]) (st' := []) ((hp 92).trans rfl) (hw.o (i := 3) (by decide) rfl) rfl rfl (Nat.le_of_ble_eq_true rfl) (Nat.le_of_ble_eq_true rfl) (am_R.post H (fun v g20 hq => ?_))
  obtain ⟨rfl, hw, H⟩ := hq
  change am_R _ _ _ _ _ [] _ _
  refine am_R.next ((hp 95).trans rfl) rfl ?_
  refine r_getR ((hp 96).trans rfl) (hw.o (i := 2) (by decide) rfl) rfl ?_
  refine am_R.next ((hp 99).trans rfl) rfl ?_
  obtain ⟨c21, H⟩ := H
  obtain ⟨c22, H⟩ := H
  obtain ⟨h23, eh23⟩ : ∃ z : am_H, z = am_put g20 ((g20.2.2.2 2 3).toNat) 11 1 := ⟨_, rfl⟩
  have H := H h23 eh23
  refine r_putI ((hp 100).trans rfl) c21 ?_
  have hw : wf h23 := by rw [eh23]; exact hw.put c22
  change am_R _ _ _ _ _ _ (am_put g20 ((g20.2.2.2 2 3).toNat) 11 1) _
  rw [← eh23]
  exact am_R.ret ((hp 103).trans rfl) rfl H
theorem w_Reader_readLine_0 {scr : Nat × (Nat → Int)} {d : Nat} {h : am_H} {Q : Option am_V → am_H → Prop} (hs : am_sc scr) (hw : wf h) (H : am_R (am_prog scr) d f_Tokens_is 0 [some (.inr (.inr ((3 : Nat) : Int))), some (.inr (.inr (-8))), none] [] h (fun v g1 => ∃ r2 : Int, v = some (.inl r2) ∧ wf g1 ∧ ((r2 = 0 → (am_R (am_prog scr) d f_Tokens_is 0 [some (.inr (.inr ((3 : Nat) : Int))), some (.inr (.inr (-11))), none] [] g1 (fun v g3 => ∃ r4 : Int, v = some (.inl r4) ∧ wf g3 ∧ ((r4 = 0 → (am_R (am_prog scr) d f_Tokens_is 0 [some (.inr (.inr ((3 : Nat) : Int))), some (.inr (.inr (-13))), none] [] g3 (fun v g5 => ∃ r6 : Int, v = some (.inl r6) ∧ wf g5 ∧ ((r6 = 0 → (am_R (am_prog scr) d f_Tokens_is 0 [some (.inr (.inr ((3 : Nat) : Int))), some (.inr (.inr (-14))), none] [] g5 (fun v g7 => ∃ r8 : Int, v = some (.inl r8) ∧ wf g7 ∧ ((r8 = 0 → (am_R (am_prog scr) d f_Tokens_is 0 [some (.inr (.inr ((3 : Nat) : Int))), some (.inr (.inr (-15))), none] [] g7 (fun v g9 => ∃ r10 : Int, v = some (.inl r10) ∧ wf g9 ∧ ((r10 = 0 → (am_R (am_prog scr) d f_Tokens_is 0 [some (.inr (.inr ((3 : Nat) : Int))), some (.inr (.inr (-38))), none] [] g9 (fun v g11 => ∃ r12 : Int, v = some (.inl r12) ∧ wf g11 ∧ ((r12 = 0 → (am_R (am_prog scr) d f_Tokens_refuse 0 [some (.inr (.inr ((3 : Nat) : Int))), some (.inl 2)] [] g11 (fun v g13 => v = none ∧ wf g13 ∧ (am_R (am_prog scr) (d + 1) f_Reader_readLine 243 [some (.inr (.inr ((2 : Nat) : Int)))] [] g13 Q)))) ∧ (¬ (r12 = 0) → (am_R (am_prog scr) d f_Reader_readLaw 0 [some (.inr (.inr ((2 : Nat) : Int)))] [] g11 (fun v g14 => ∃ r15 : Int, v = some (.inr (.inr r15)) ∧ wf g14 ∧ ((am_isO g14 (g11.2.2.2 2 3) 1) ∧ ((∀ q ∈ wr_l, ¬ (q.1 = ((g11.2.2.2 2 3).toNat) ∧ q.2.1 = 13)) ∧ ((-1 ≤ r15) ∧ (∀ h19 : am_H, h19 = am_put g14 ((g11.2.2.2 2 3).toNat) 13 r15 → (am_R (am_prog scr) (d + 1) f_Reader_readLine 243 [some (.inr (.inr ((2 : Nat) : Int)))] [] h19 Q)))))))))))) ∧ (¬ (r10 = 0) → (am_R (am_prog scr) d f_Reader_readLaw 0 [some (.inr (.inr ((2 : Nat) : Int)))] [] g9 (fun v g21 => ∃ r22 : Int, v = some (.inr (.inr r22)) ∧ wf g21 ∧ ((am_isO g21 (g9.2.2.2 2 3) 1) ∧ ((∀ q ∈ wr_l, ¬ (q.1 = ((g9.2.2.2 2 3).toNat) ∧ q.2.1 = 12)) ∧ ((-1 ≤ r22) ∧ (∀ h26 : am_H, h26 = am_put g21 ((g9.2.2.2 2 3).toNat) 12 r22 → (am_R (am_prog scr) (d + 1) f_Reader_readLine 243 [some (.inr (.inr ((2 : Nat) : Int)))] [] h26 Q)))))))))))) ∧ (¬ (r8 = 0) → (am_R (am_prog scr) d f_Tokens_advance 0 [some (.inr (.inr ((3 : Nat) : Int))), none] [] g7 (fun v g28 => v = none ∧ wf g28 ∧ (am_R (am_prog scr) d f_Tokens_wantNumber 0 [some (.inr (.inr ((3 : Nat) : Int))), some (.inl 0), some (.inl 9), none] [] g28 (fun v g29 => ∃ r30 : Int, v = some (.inl r30) ∧ wf g29 ∧ ((am_isO g29 (g28.2.2.2 2 3) 1) ∧ ((∀ q ∈ wr_l, ¬ (q.1 = ((g28.2.2.2 2 3).toNat) ∧ q.2.1 = 10)) ∧ (∀ h33 : am_H, h33 = am_put g29 ((g28.2.2.2 2 3).toNat) 10 r30 → (am_R (am_prog scr) (d + 1) f_Reader_readLine 243 [some (.inr (.inr ((2 : Nat) : Int)))] [] h33 Q))))))))))))) ∧ (¬ (r6 = 0) → (am_R (am_prog scr) d f_Tokens_advance 0 [some (.inr (.inr ((3 : Nat) : Int))), none] [] g5 (fun v g35 => v = none ∧ wf g35 ∧ (am_isO g35 (g35.2.2.2 2 3) 1 ∧ (am_R (am_prog scr) d f_Tokens_wantNumber 0 [some (.inr (.inr ((3 : Nat) : Int))), some (.inl 0), some (.inl (am_w ((g35.2.2.2 ((g35.2.2.2 2 3).toNat) 2) - 1))), none] [] g35 (fun v g37 => ∃ r38 : Int, v = some (.inl r38) ∧ wf g37 ∧ ((am_isO g37 (g35.2.2.2 2 3) 1) ∧ ((∀ q ∈ wr_l, ¬ (q.1 = ((g35.2.2.2 2 3).toNat) ∧ q.2.1 = 9)) ∧ (∀ h41 : am_H, h41 = am_put g37 ((g35.2.2.2 2 3).toNat) 9 r38 → (am_R (am_prog scr) (d + 1) f_Reader_readLine 243 [some (.inr (.inr ((2 : Nat) : Int)))] [] h41 Q)))))))))))))) ∧ (¬ (r4 = 0) → (am_R (am_prog scr) d f_Tokens_advance 0 [some (.inr (.inr ((3 : Nat) : Int))), none] [] g3 (fun v g43 => v = none ∧ wf g43 ∧ (am_isO g43 (g43.2.2.2 2 3) 1 ∧ (am_R (am_prog scr) d f_Tokens_wantNumber 0 [some (.inr (.inr ((3 : Nat) : Int))), some (.inl 0), some (.inl (am_w ((g43.2.2.2 ((g43.2.2.2 2 3).toNat) 4) - 1))), none] [] g43 (fun v g45 => ∃ r46 : Int, v = some (.inl r46) ∧ wf g45 ∧ ((am_isO g45 (g43.2.2.2 2 3) 1) ∧ ((∀ q ∈ wr_l, ¬ (q.1 = ((g43.2.2.2 2 3).toNat) ∧ q.2.1 = 7)) ∧ (∀ h49 : am_H, h49 = am_put g45 ((g43.2.2.2 2 3).toNat) 7 r46 → (am_R (am_prog scr) d f_Tokens_want 0 [some (.inr (.inr ((3 : Nat) : Int))), some (.inr (.inr (-12)))] [] h49 (fun v g50 => v = none ∧ wf g50 ∧ (am_isO g50 (g50.2.2.2 2 3) 1 ∧ (am_R (am_prog scr) d f_Tokens_wantNumber 0 [some (.inr (.inr ((3 : Nat) : Int))), some (.inl 0), some (.inl (am_w ((g50.2.2.2 ((g50.2.2.2 2 3).toNat) 2) - 1))), none] [] g50 (fun v g52 => ∃ r53 : Int, v = some (.inl r53) ∧ wf g52 ∧ ((am_isO g52 (g50.2.2.2 2 3) 1) ∧ ((∀ q ∈ wr_l, ¬ (q.1 = ((g50.2.2.2 2 3).toNat) ∧ q.2.1 = 8)) ∧ (∀ h56 : am_H, h56 = am_put g52 ((g50.2.2.2 2 3).toNat) 8 r53 → (am_R (am_prog scr) (d + 1) f_Reader_readLine 243 [some (.inr (.inr ((2 : Nat) : Int)))] [] h56 Q)))))))))))))))))))))) ∧ (¬ (r2 = 0) → (am_R (am_prog scr) d f_Reader_readSleeper 0 [some (.inr (.inr ((2 : Nat) : Int))), none, none] [] g1 (fun v g58 => v = none ∧ wf g58 ∧ (am_R (am_prog scr) (d + 1) f_Reader_readLine 243 [some (.inr (.inr ((2 : Nat) : Int)))] [] g58 Q))))))) : am_R (am_prog scr) (d + 1) f_Reader_readLine 0 [some (.inr (.inr ((2 : Nat) : Int)))] [] h Q := by
  have hp : ∀ k, (am_prog scr).1 f_Reader_readLine k = c_Reader_readLine k := fun _ => rfl
  refine am_R.next ((hp 0).trans rfl) rfl ?_
  refine r_getR ((hp 1).trans rfl) (hw.o (i := 2) (by decide) rfl) (hw.r wr_2_0) ?_
  refine am_R.next ((hp 4).trans rfl) rfl ?_
  refine r_cv (bs := [.inr (.inr (-8))]) (st' := []) ((hp 6).trans rfl) (hw.o (i := 3) (by decide) rfl) rfl rfl (Nat.le_of_ble_eq_true rfl) (Nat.le_of_ble_eq_true rfl) (am_R.post H (fun v g1 hq => ?_))
  obtain ⟨r2, rfl, hw, H⟩ := hq
  change am_R _ _ _ _ _ [.inl r2] _ _
  refine r_if ((hp 9).trans rfl) (fun c59 => ?_) (fun c59 => ?_)
  · have H := H.1 c59
    refine am_R.next ((hp 19).trans rfl) rfl ?_
    refine r_getR ((hp 20).trans rfl) (hw.o (i := 2) (by decide) rfl) (hw.r wr_2_0) ?_
    refine am_R.next ((hp 23).trans rfl) rfl ?_
    refine r_cv (bs := [.inr (.inr (-11))]) (st' := []) ((hp 25).trans rfl) (hw.o (i := 3) (by decide) rfl) rfl rfl (Nat.le_of_ble_eq_true rfl) (Nat.le_of_ble_eq_true rfl) (am_R.post H (fun v g3 hq => ?_))
    obtain ⟨r4, rfl, hw, H⟩ := hq
    change am_R _ _ _ _ _ [.inl r4] _ _
    refine r_if ((hp 28).trans rfl) (fun c57 => ?_) (fun c57 => ?_)
    · have H := H.1 c57
      refine am_R.next ((hp 98).trans rfl) rfl ?_
      refine r_getR ((hp 99).trans rfl) (hw.o (i := 2) (by decide) rfl) (hw.r wr_2_0) ?_
      refine am_R.next ((hp 102).trans rfl) rfl ?_
      refine r_cv (bs := [.inr (.inr (-13))]) (st' := []) ((hp 104).trans rfl) (hw.o (i := 3) (by decide) rfl) rfl rfl (Nat.le_of_ble_eq_true rfl) (Nat.le_of_ble_eq_true rfl) (am_R.post H (fun v g5 hq => ?_))
      obtain ⟨r6, rfl, hw, H⟩ := hq
      change am_R _ _ _ _ _ [.inl r6] _ _
      refine r_if ((hp 107).trans rfl) (fun c42 => ?_) (fun c42 => ?_)
      · have H := H.1 c42
        refine am_R.next ((hp 144).trans rfl) rfl ?_
        refine r_getR ((hp 145).trans rfl) (hw.o (i := 2) (by decide) rfl) (hw.r wr_2_0) ?_
        refine am_R.next ((hp 148).trans rfl) rfl ?_
        refine r_cv (bs := [.inr (.inr (-14))]) (st' := []) ((hp 150).trans rfl) (hw.o (i := 3) (by decide) rfl) rfl rfl (Nat.le_of_ble_eq_true rfl) (Nat.le_of_ble_eq_true rfl) (am_R.post H (fun v g7 hq => ?_))
        obtain ⟨r8, rfl, hw, H⟩ := hq
        change am_R _ _ _ _ _ [.inl r8] _ _
        refine r_if ((hp 153).trans rfl) (fun c34 => ?_) (fun c34 => ?_)
        · have H := H.1 c34
          refine am_R.next ((hp 183).trans rfl) rfl ?_
          refine r_getR ((hp 184).trans rfl) (hw.o (i := 2) (by decide) rfl) (hw.r wr_2_0) ?_
          refine am_R.next ((hp 187).trans rfl) rfl ?_
          refine r_cv (bs := [.inr (.inr (-15))]) (st' := []) ((hp 189).trans rfl) (hw.o (i := 3) (by decide) rfl) rfl rfl (Nat.le_of_ble_eq_true rfl) (Nat.le_of_ble_eq_true rfl) (am_R.post H (fun v g9 hq => ?_))
          obtain ⟨r10, rfl, hw, H⟩ := hq
          change am_R _ _ _ _ _ [.inl r10] _ _
          refine r_if ((hp 192).trans rfl) (fun c27 => ?_) (fun c27 => ?_)
          · have H := H.1 c27
            refine am_R.next ((hp 209).trans rfl) rfl ?_
            refine r_getR ((hp 210).trans rfl) (hw.o (i := 2) (by decide) rfl) (hw.r wr_2_0) ?_
            refine am_R.next ((hp 213).trans rfl) rfl ?_
            refine r_cv (bs := [.inr (.inr (-38))]) (st' := []) ((hp 215).trans rfl) (hw.o (i := 3) (by decide) rfl) rfl rfl (Nat.le_of_ble_eq_true rfl) (Nat.le_of_ble_eq_true rfl) (am_R.post H (fun v g11 hq => ?_))
            obtain ⟨r12, rfl, hw, H⟩ := hq
            change am_R _ _ _ _ _ [.inl r12] _ _
            refine r_if ((hp 218).trans rfl) (fun c20 => ?_) (fun c20 => ?_)
            · have H := H.1 c20
              refine am_R.next ((hp 235).trans rfl) rfl ?_
              refine r_getR ((hp 236).trans rfl) (hw.o (i := 2) (by decide) rfl) (hw.r wr_2_0) ?_
              refine am_R.next ((hp 239).trans rfl) rfl ?_
              refine r_cv (bs := [.inl 2]) (st' := []) ((hp 240).trans rfl) (hw.o (i := 3) (by decide) rfl) rfl rfl (Nat.le_of_ble_eq_true rfl) (Nat.le_of_ble_eq_true rfl) (am_R.post H (fun v g13 hq => ?_))
              obtain ⟨rfl, hw, H⟩ := hq
              change am_R _ _ _ _ _ [] _ _
              exact H
            · have H := H.2 c20
              refine am_R.next ((hp 221).trans rfl) rfl ?_
              refine r_getR ((hp 222).trans rfl) (hw.o (i := 2) (by decide) rfl) rfl ?_
              refine am_R.next ((hp 225).trans rfl) rfl ?_
              refine r_cv (bs := []) (st' := [.inr (.inr (g11.2.2.2 2 3))]) ((hp 226).trans rfl) (hw.o (i := 2) (by decide) rfl) rfl rfl (Nat.le_of_ble_eq_true rfl) (Nat.le_of_ble_eq_true rfl) (am_R.post H (fun v g14 hq => ?_))
              obtain ⟨r15, rfl, hw, H⟩ := hq
              change am_R _ _ _ _ _ [.inr (.inr r15), .inr (.inr (g11.2.2.2 2 3))] _ _
              obtain ⟨c16, H⟩ := H
              obtain ⟨c17, H⟩ := H
              obtain ⟨c18, H⟩ := H
              obtain ⟨h19, eh19⟩ : ∃ z : am_H, z = am_put g14 ((g11.2.2.2 2 3).toNat) 13 r15 := ⟨_, rfl⟩
              have H := H h19 eh19
              refine r_putR ((hp 229).trans rfl) c16 c18 ?_
              have hw : wf h19 := by rw [eh19]; exact hw.put c17
              change am_R _ _ _ _ _ _ (am_put g14 ((g11.2.2.2 2 3).toNat) 13 r15) _
              rw [← eh19]
              refine am_R.next ((hp 232).trans rfl) rfl ?_
              exact H
          · have H := H.2 c27
            refine am_R.next ((hp 195).trans rfl) rfl ?_
            refine r_getR ((hp 196).trans rfl) (hw.o (i := 2) (by decide) rfl) rfl ?_
            refine am_R.next ((hp 199).trans rfl) rfl ?_
            refine r_cv (bs := []) (st' := [.inr (.inr (g9.2.2.2 2 3))]) ((hp 200).trans rfl) (hw.o (i := 2) (by decide) rfl) rfl rfl (Nat.le_of_ble_eq_true rfl) (Nat.le_of_ble_eq_true rfl) (am_R.post H (fun v g21 hq => ?_))
            obtain ⟨r22, rfl, hw, H⟩ := hq
            change am_R _ _ _ _ _ [.inr (.inr r22), .inr (.inr (g9.2.2.2 2 3))] _ _
            obtain ⟨c23, H⟩ := H
            obtain ⟨c24, H⟩ := H
            obtain ⟨c25, H⟩ := H
            obtain ⟨h26, eh26⟩ : ∃ z : am_H, z = am_put g21 ((g9.2.2.2 2 3).toNat) 12 r22 := ⟨_, rfl⟩
            have H := H h26 eh26
            refine r_putR ((hp 203).trans rfl) c23 c25 ?_
            have hw : wf h26 := by rw [eh26]; exact hw.put c24
            change am_R _ _ _ _ _ _ (am_put g21 ((g9.2.2.2 2 3).toNat) 12 r22) _
            rw [← eh26]
            refine am_R.next ((hp 206).trans rfl) rfl ?_
            exact H
        · have H := H.2 c34
          refine am_R.next ((hp 156).trans rfl) rfl ?_
          refine r_getR ((hp 157).trans rfl) (hw.o (i := 2) (by decide) rfl) (hw.r wr_2_0) ?_
          refine r_cv (bs := []) (st' := []) ((hp 160).trans rfl) (hw.o (i := 3) (by decide) rfl) rfl rfl (Nat.le_of_ble_eq_true rfl) (Nat.le_of_ble_eq_true rfl) (am_R.post H (fun v g28 hq => ?_))
          obtain ⟨rfl, hw, H⟩ := hq
          change am_R _ _ _ _ _ [] _ _
          refine am_R.next ((hp 163).trans rfl) rfl ?_
          refine r_getR ((hp 164).trans rfl) (hw.o (i := 2) (by decide) rfl) rfl ?_
          refine am_R.next ((hp 167).trans rfl) rfl ?_
          refine r_getR ((hp 168).trans rfl) (hw.o (i := 2) (by decide) rfl) (hw.r wr_2_0) ?_
          refine am_R.next ((hp 171).trans rfl) rfl ?_
          refine am_R.next ((hp 172).trans rfl) rfl ?_
          refine r_cv (bs := [.inl 0, .inl 9]) (st' := [.inr (.inr (g28.2.2.2 2 3))]) ((hp 174).trans rfl) (hw.o (i := 3) (by decide) rfl) rfl rfl (Nat.le_of_ble_eq_true rfl) (Nat.le_of_ble_eq_true rfl) (am_R.post H (fun v g29 hq => ?_))
          obtain ⟨r30, rfl, hw, H⟩ := hq
          change am_R _ _ _ _ _ [.inl r30, .inr (.inr (g28.2.2.2 2 3))] _ _
          obtain ⟨c31, H⟩ := H
          obtain ⟨c32, H⟩ := H
          obtain ⟨h33, eh33⟩ : ∃ z : am_H, z = am_put g29 ((g28.2.2.2 2 3).toNat) 10 r30 := ⟨_, rfl⟩
          have H := H h33 eh33
          refine r_putI ((hp 177).trans rfl) c31 ?_
          have hw : wf h33 := by rw [eh33]; exact hw.put c32
          change am_R _ _ _ _ _ _ (am_put g29 ((g28.2.2.2 2 3).toNat) 10 r30) _
          rw [← eh33]
          refine am_R.next ((hp 180).trans rfl) rfl ?_
          exact H
      · have H := H.2 c42
        refine am_R.next ((hp 110).trans rfl) rfl ?_
        refine r_getR ((hp 111).trans rfl) (hw.o (i := 2) (by decide) rfl) (hw.r wr_2_0) ?_
        refine r_cv (bs := []) (st' := []) ((hp 114).trans rfl) (hw.o (i := 3) (by decide) rfl) rfl rfl (Nat.le_of_ble_eq_true rfl) (Nat.le_of_ble_eq_true rfl) (am_R.post H (fun v g35 hq => ?_))
        obtain ⟨rfl, hw, H⟩ := hq
        change am_R _ _ _ _ _ [] _ _
        refine am_R.next ((hp 117).trans rfl) rfl ?_
        refine r_getR ((hp 118).trans rfl) (hw.o (i := 2) (by decide) rfl) rfl ?_
        refine am_R.next ((hp 121).trans rfl) rfl ?_
        refine r_getR ((hp 122).trans rfl) (hw.o (i := 2) (by decide) rfl) (hw.r wr_2_0) ?_
        refine am_R.next ((hp 125).trans rfl) rfl ?_
        refine am_R.next ((hp 126).trans rfl) rfl ?_
        refine r_getR ((hp 127).trans rfl) (hw.o (i := 2) (by decide) rfl) rfl ?_
        obtain ⟨c36, H⟩ := H
        refine r_getI ((hp 130).trans rfl) c36 ?_
        refine am_R.next ((hp 133).trans rfl) rfl ?_
        refine am_R.next ((hp 134).trans rfl) rfl ?_
        refine r_cv (bs := [.inl 0, .inl (am_w ((g35.2.2.2 ((g35.2.2.2 2 3).toNat) 2) - 1))]) (st' := [.inr (.inr (g35.2.2.2 2 3))]) ((hp 135).trans rfl) (hw.o (i := 3) (by decide) rfl) rfl rfl (Nat.le_of_ble_eq_true rfl) (Nat.le_of_ble_eq_true rfl) (am_R.post H (fun v g37 hq => ?_))
        obtain ⟨r38, rfl, hw, H⟩ := hq
        change am_R _ _ _ _ _ [.inl r38, .inr (.inr (g35.2.2.2 2 3))] _ _
        obtain ⟨c39, H⟩ := H
        obtain ⟨c40, H⟩ := H
        obtain ⟨h41, eh41⟩ : ∃ z : am_H, z = am_put g37 ((g35.2.2.2 2 3).toNat) 9 r38 := ⟨_, rfl⟩
        have H := H h41 eh41
        refine r_putI ((hp 138).trans rfl) c39 ?_
        have hw : wf h41 := by rw [eh41]; exact hw.put c40
        change am_R _ _ _ _ _ _ (am_put g37 ((g35.2.2.2 2 3).toNat) 9 r38) _
        rw [← eh41]
        refine am_R.next ((hp 141).trans rfl) rfl ?_
        exact H
    · have H := H.2 c57
      refine am_R.next ((hp 31).trans rfl) rfl ?_
      refine r_getR ((hp 32).trans rfl) (hw.o (i := 2) (by decide) rfl) (hw.r wr_2_0) ?_
      refine r_cv (bs := []) (st' := []) ((hp 35).trans rfl) (hw.o (i := 3) (by decide) rfl) rfl rfl (Nat.le_of_ble_eq_true rfl) (Nat.le_of_ble_eq_true rfl) (am_R.post H (fun v g43 hq => ?_))
      obtain ⟨rfl, hw, H⟩ := hq
      change am_R _ _ _ _ _ [] _ _
      refine am_R.next ((hp 38).trans rfl) rfl ?_
      refine r_getR ((hp 39).trans rfl) (hw.o (i := 2) (by decide) rfl) rfl ?_
      refine am_R.next ((hp 42).trans rfl) rfl ?_
      refine r_getR ((hp 43).trans rfl) (hw.o (i := 2) (by decide) rfl) (hw.r wr_2_0) ?_
      refine am_R.next ((hp 46).trans rfl) rfl ?_
      refine am_R.next ((hp 47).trans rfl) rfl ?_
      refine r_getR ((hp 48).trans rfl) (hw.o (i := 2) (by decide) rfl) rfl ?_
      obtain ⟨c44, H⟩ := H
      refine r_getI ((hp 51).trans rfl) c44 ?_
      refine am_R.next ((hp 54).trans rfl) rfl ?_
      refine am_R.next ((hp 55).trans rfl) rfl ?_
      refine r_cv (bs := [.inl 0, .inl (am_w ((g43.2.2.2 ((g43.2.2.2 2 3).toNat) 4) - 1))]) (st' := [.inr (.inr (g43.2.2.2 2 3))]) ((hp 56).trans rfl) (hw.o (i := 3) (by decide) rfl) rfl rfl (Nat.le_of_ble_eq_true rfl) (Nat.le_of_ble_eq_true rfl) (am_R.post H (fun v g45 hq => ?_))
      obtain ⟨r46, rfl, hw, H⟩ := hq
      change am_R _ _ _ _ _ [.inl r46, .inr (.inr (g43.2.2.2 2 3))] _ _
      obtain ⟨c47, H⟩ := H
      obtain ⟨c48, H⟩ := H
      obtain ⟨h49, eh49⟩ : ∃ z : am_H, z = am_put g45 ((g43.2.2.2 2 3).toNat) 7 r46 := ⟨_, rfl⟩
      have H := H h49 eh49
      refine r_putI ((hp 59).trans rfl) c47 ?_
      have hw : wf h49 := by rw [eh49]; exact hw.put c48
      change am_R _ _ _ _ _ _ (am_put g45 ((g43.2.2.2 2 3).toNat) 7 r46) _
      rw [← eh49]
      refine am_R.next ((hp 62).trans rfl) rfl ?_
      refine r_getR ((hp 63).trans rfl) (hw.o (i := 2) (by decide) rfl) (hw.r wr_2_0) ?_
      refine am_R.next ((hp 66).trans rfl) rfl ?_
      refine r_cv (bs := [.inr (.inr (-12))]) (st' := []) ((hp 68).trans rfl) (hw.o (i := 3) (by decide) rfl) rfl rfl (Nat.le_of_ble_eq_true rfl) (Nat.le_of_ble_eq_true rfl) (am_R.post H (fun v g50 hq => ?_))
      obtain ⟨rfl, hw, H⟩ := hq
      change am_R _ _ _ _ _ [] _ _
      refine am_R.next ((hp 71).trans rfl) rfl ?_
      refine r_getR ((hp 72).trans rfl) (hw.o (i := 2) (by decide) rfl) rfl ?_
      refine am_R.next ((hp 75).trans rfl) rfl ?_
      refine r_getR ((hp 76).trans rfl) (hw.o (i := 2) (by decide) rfl) (hw.r wr_2_0) ?_
      refine am_R.next ((hp 79).trans rfl) rfl ?_
      refine am_R.next ((hp 80).trans rfl) rfl ?_
      refine r_getR ((hp 81).trans rfl) (hw.o (i := 2) (by decide) rfl) rfl ?_
      obtain ⟨c51, H⟩ := H
      refine r_getI ((hp 84).trans rfl) c51 ?_
      refine am_R.next ((hp 87).trans rfl) rfl ?_
      refine am_R.next ((hp 88).trans rfl) rfl ?_
      refine r_cv (bs := [.inl 0, .inl (am_w ((g50.2.2.2 ((g50.2.2.2 2 3).toNat) 2) - 1))]) (st' := [.inr (.inr (g50.2.2.2 2 3))]) ((hp 89).trans rfl) (hw.o (i := 3) (by decide) rfl) rfl rfl (Nat.le_of_ble_eq_true rfl) (Nat.le_of_ble_eq_true rfl) (am_R.post H (fun v g52 hq => ?_))
      obtain ⟨r53, rfl, hw, H⟩ := hq
      change am_R _ _ _ _ _ [.inl r53, .inr (.inr (g50.2.2.2 2 3))] _ _
      obtain ⟨c54, H⟩ := H
      obtain ⟨c55, H⟩ := H
      obtain ⟨h56, eh56⟩ : ∃ z : am_H, z = am_put g52 ((g50.2.2.2 2 3).toNat) 8 r53 := ⟨_, rfl⟩
      have H := H h56 eh56
      refine r_putI ((hp 92).trans rfl) c54 ?_
      have hw : wf h56 := by rw [eh56]; exact hw.put c55
      change am_R _ _ _ _ _ _ (am_put g52 ((g50.2.2.2 2 3).toNat) 8 r53) _
      rw [← eh56]
      refine am_R.next ((hp 95).trans rfl) rfl ?_
      exact H
  · have H := H.2 c59
    refine am_R.next ((hp 12).trans rfl) rfl ?_
    refine r_cv (bs := []) (st' := []) ((hp 13).trans rfl) (hw.o (i := 2) (by decide) rfl) rfl rfl (Nat.le_of_ble_eq_true rfl) (Nat.le_of_ble_eq_true rfl) (am_R.post H (fun v g58 hq => ?_))
    obtain ⟨rfl, hw, H⟩ := hq
    change am_R _ _ _ _ _ [] _ _
    refine am_R.next ((hp 16).trans rfl) rfl ?_
    exact H
theorem w_Reader_readLine_243 {scr : Nat × (Nat → Int)} {d : Nat} {h : am_H} {Q : Option am_V → am_H → Prop} (hs : am_sc scr) (hw : wf h) (H : am_R (am_prog scr) d f_Tokens_want 0 [some (.inr (.inr ((3 : Nat) : Int))), some (.inr (.inr (-7)))] [] h (fun v g1 => v = none ∧ wf g1 ∧ (am_isO g1 (g1.2.2.2 2 3) 1 ∧ ((am_isO g1 (g1.2.2.2 2 3) 1) ∧ ((∀ q ∈ wr_l, ¬ (q.1 = ((g1.2.2.2 2 3).toNat) ∧ q.2.1 = 11)) ∧ (∀ h5 : am_H, h5 = am_put g1 ((g1.2.2.2 2 3).toNat) 11 (am_w ((g1.2.2.2 ((g1.2.2.2 2 3).toNat) 11) + 1)) → (Q none h5))))))) : am_R (am_prog scr) (d + 1) f_Reader_readLine 243 [some (.inr (.inr ((2 : Nat) : Int)))] [] h Q := by
  have hp : ∀ k, (am_prog scr).1 f_Reader_readLine k = c_Reader_readLine k := fun _ => rfl
  refine am_R.next ((hp 243).trans rfl) rfl ?_
  refine r_getR ((hp 244).trans rfl) (hw.o (i := 2) (by decide) rfl) (hw.r wr_2_0) ?_
  refine am_R.next ((hp 247).trans rfl) rfl ?_
  refine r_cv (bs := [.inr (.inr (-7))]) (st' := []) ((hp 249).trans rfl) (hw.o (i := 3) (by decide) rfl) rfl rfl (Nat.le_of_ble_eq_true rfl) (Nat.le_of_ble_eq_true rfl) (am_R.post H (fun v g1 hq => ?_))
  obtain ⟨rfl, hw, H⟩ := hq
  change am_R _ _ _ _ _ [] _ _
  refine am_R.next ((hp 252).trans rfl) rfl ?_
  refine r_getR ((hp 253).trans rfl) (hw.o (i := 2) (by decide) rfl) rfl ?_
  refine am_R.next ((hp 256).trans rfl) rfl ?_
  obtain ⟨c2, H⟩ := H
  refine r_getI ((hp 257).trans rfl) c2 ?_
  refine am_R.next ((hp 260).trans rfl) rfl ?_
  refine am_R.next ((hp 261).trans rfl) rfl ?_
  obtain ⟨c3, H⟩ := H
  obtain ⟨c4, H⟩ := H
  obtain ⟨h5, eh5⟩ : ∃ z : am_H, z = am_put g1 ((g1.2.2.2 2 3).toNat) 11 (am_w ((g1.2.2.2 ((g1.2.2.2 2 3).toNat) 11) + 1)) := ⟨_, rfl⟩
  have H := H h5 eh5
  refine r_putI ((hp 262).trans rfl) c3 ?_
  have hw : wf h5 := by rw [eh5]; exact hw.put c4
  change am_R _ _ _ _ _ _ (am_put g1 ((g1.2.2.2 2 3).toNat) 11 (am_w ((g1.2.2.2 ((g1.2.2.2 2 3).toNat) 11) + 1))) _
  rw [← eh5]
  exact am_R.ret ((hp 265).trans rfl) rfl H
theorem w_Reader_readSleeper_0 {scr : Nat × (Nat → Int)} {d : Nat} {h : am_H} {Q : Option am_V → am_H → Prop} (hs : am_sc scr) (hw : wf h) (H : am_isO h (h.2.2.2 2 3) 1 ∧ (am_isO h (h.2.2.2 2 3) 1 ∧ ((¬ ((h.2.2.2 ((h.2.2.2 2 3).toNat) 4) < (h.2.2.2 ((h.2.2.2 2 3).toNat) 1)) → (am_R (am_prog scr) d f_Tokens_refuse 0 [some (.inr (.inr ((3 : Nat) : Int))), some (.inl 4)] [] h (fun v g3 => v = none ∧ wf g3 ∧ (Q none g3)))) ∧ ((h.2.2.2 ((h.2.2.2 2 3).toNat) 4) < (h.2.2.2 ((h.2.2.2 2 3).toNat) 1) → (am_isO h (h.2.2.2 2 3) 1 ∧ (((h.2.2.2 ((h.2.2.2 2 3).toNat) 4) < 6 → (am_R (am_prog scr) d f_Tokens_advance 0 [some (.inr (.inr ((3 : Nat) : Int))), none] [] h (fun v g5 => v = none ∧ wf g5 ∧ (am_R (am_prog scr) d f_Tokens_want 0 [some (.inr (.inr ((3 : Nat) : Int))), some (.inr (.inr (-9)))] [] g5 (fun v g6 => v = none ∧ wf g6 ∧ (am_R (am_prog scr) d f_Tokens_isNumber 0 [some (.inr (.inr ((3 : Nat) : Int)))] [] g6 (fun v g7 => ∃ r8 : Int, v = some (.inl r8) ∧ wf g7 ∧ ((r8 = 0 → (am_R (am_prog scr) (d + 1) f_Reader_readSleeper 89 [some (.inr (.inr ((2 : Nat) : Int))), none, none] [] g7 Q)) ∧ (¬ (r8 = 0) → (am_isO g7 (g7.2.2.2 2 3) 1 ∧ (am_R (am_prog scr) d f_House_hasTold 0 [some (.inr (.inr (g7.2.2.2 2 3))), some (.inl (g7.2.2.2 3 5)), none] [] g7 (fun v g9 => ∃ r11 : Int, v = some (.inl r11) ∧ wf g9 ∧ ((r11 = 0 → (am_R (am_prog scr) (d + 1) f_Reader_readSleeper 89 [some (.inr (.inr ((2 : Nat) : Int))), none, none] [] g9 Q)) ∧ (¬ (r11 = 0) → (am_R (am_prog scr) d f_Tokens_refuse 0 [some (.inr (.inr ((3 : Nat) : Int))), some (.inl 3)] [] g9 (fun v g12 => v = none ∧ wf g12 ∧ (am_R (am_prog scr) (d + 1) f_Reader_readSleeper 89 [some (.inr (.inr ((2 : Nat) : Int))), none, none] [] g12 Q))))))))))))))))) ∧ (¬ ((h.2.2.2 ((h.2.2.2 2 3).toNat) 4) < 6) → (am_R (am_prog scr) d f_Tokens_refuse 0 [some (.inr (.inr ((3 : Nat) : Int))), some (.inl 4)] [] h (fun v g15 => v = none ∧ wf g15 ∧ (Q none g15)))))))))) : am_R (am_prog scr) (d + 1) f_Reader_readSleeper 0 [some (.inr (.inr ((2 : Nat) : Int))), none, none] [] h Q := by
  have hp : ∀ k, (am_prog scr).1 f_Reader_readSleeper k = c_Reader_readSleeper k := fun _ => rfl
  refine am_R.next ((hp 0).trans rfl) rfl ?_
  refine r_getR ((hp 1).trans rfl) (hw.o (i := 2) (by decide) rfl) rfl ?_
  obtain ⟨c1, H⟩ := H
  refine r_getI ((hp 4).trans rfl) c1 ?_
  refine am_R.next ((hp 7).trans rfl) rfl ?_
  refine r_getR ((hp 8).trans rfl) (hw.o (i := 2) (by decide) rfl) rfl ?_
  obtain ⟨c2, H⟩ := H
  refine r_getI ((hp 11).trans rfl) c2 ?_
  refine r_ic ((hp 14).trans rfl) (fun c17 => ?_) (fun c17 => ?_)
  · have H := H.1 c17
    refine am_R.next ((hp 29).trans rfl) rfl ?_
    refine r_getR ((hp 30).trans rfl) (hw.o (i := 2) (by decide) rfl) (hw.r wr_2_0) ?_
    refine am_R.next ((hp 33).trans rfl) rfl ?_
    refine r_cv (bs := [.inl 4]) (st' := []) ((hp 34).trans rfl) (hw.o (i := 3) (by decide) rfl) rfl rfl (Nat.le_of_ble_eq_true rfl) (Nat.le_of_ble_eq_true rfl) (am_R.post H (fun v g3 hq => ?_))
    obtain ⟨rfl, hw, H⟩ := hq
    change am_R _ _ _ _ _ [] _ _
    exact am_R.ret ((hp 37).trans rfl) rfl H
  · have H := H.2 (Decidable.not_not.mp c17)
    refine am_R.next ((hp 17).trans rfl) rfl ?_
    refine r_getR ((hp 18).trans rfl) (hw.o (i := 2) (by decide) rfl) rfl ?_
    obtain ⟨c4, H⟩ := H
    refine r_getI ((hp 21).trans rfl) c4 ?_
    refine am_R.next ((hp 24).trans rfl) rfl ?_
    refine r_ic ((hp 26).trans rfl) (fun c16 => ?_) (fun c16 => ?_)
    · have H := H.1 c16
      refine am_R.next ((hp 38).trans rfl) rfl ?_
      refine r_getR ((hp 39).trans rfl) (hw.o (i := 2) (by decide) rfl) (hw.r wr_2_0) ?_
      refine r_cv (bs := []) (st' := []) ((hp 42).trans rfl) (hw.o (i := 3) (by decide) rfl) rfl rfl (Nat.le_of_ble_eq_true rfl) (Nat.le_of_ble_eq_true rfl) (am_R.post H (fun v g5 hq => ?_))
      obtain ⟨rfl, hw, H⟩ := hq
      change am_R _ _ _ _ _ [] _ _
      refine am_R.next ((hp 45).trans rfl) rfl ?_
      refine r_getR ((hp 46).trans rfl) (hw.o (i := 2) (by decide) rfl) (hw.r wr_2_0) ?_
      refine am_R.next ((hp 49).trans rfl) rfl ?_
      refine r_cv (bs := [.inr (.inr (-9))]) (st' := []) ((hp 51).trans rfl) (hw.o (i := 3) (by decide) rfl) rfl rfl (Nat.le_of_ble_eq_true rfl) (Nat.le_of_ble_eq_true rfl) (am_R.post H (fun v g6 hq => ?_))
      obtain ⟨rfl, hw, H⟩ := hq
      change am_R _ _ _ _ _ [] _ _
      refine am_R.next ((hp 54).trans rfl) rfl ?_
      refine r_getR ((hp 55).trans rfl) (hw.o (i := 2) (by decide) rfl) (hw.r wr_2_0) ?_
      refine r_cv (bs := []) (st' := []) ((hp 58).trans rfl) (hw.o (i := 3) (by decide) rfl) rfl rfl (Nat.le_of_ble_eq_true rfl) (Nat.le_of_ble_eq_true rfl) (am_R.post H (fun v g7 hq => ?_))
      obtain ⟨r8, rfl, hw, H⟩ := hq
      change am_R _ _ _ _ _ [.inl r8] _ _
      refine r_if ((hp 61).trans rfl) (fun c14 => ?_) (fun c14 => ?_)
      · have H := H.1 c14
        exact H
      · have H := H.2 c14
        refine am_R.next ((hp 64).trans rfl) rfl ?_
        refine r_getR ((hp 65).trans rfl) (hw.o (i := 2) (by decide) rfl) rfl ?_
        refine am_R.next ((hp 68).trans rfl) rfl ?_
        refine r_getR ((hp 69).trans rfl) (hw.o (i := 2) (by decide) rfl) (hw.r wr_2_0) ?_
        refine r_getI ((hp 72).trans rfl) (hw.o (i := 3) (by decide) rfl) ?_
        obtain ⟨c10, H⟩ := H
        refine r_cv (bs := [.inl (g7.2.2.2 3 5)]) (st' := []) ((hp 75).trans rfl) c10 rfl rfl (Nat.le_of_ble_eq_true rfl) (Nat.le_of_ble_eq_true rfl) (am_R.post H (fun v g9 hq => ?_))
        obtain ⟨r11, rfl, hw, H⟩ := hq
        change am_R _ _ _ _ _ [.inl r11] _ _
        refine r_if ((hp 78).trans rfl) (fun c13 => ?_) (fun c13 => ?_)
        · have H := H.1 c13
          exact H
        · have H := H.2 c13
          refine am_R.next ((hp 81).trans rfl) rfl ?_
          refine r_getR ((hp 82).trans rfl) (hw.o (i := 2) (by decide) rfl) (hw.r wr_2_0) ?_
          refine am_R.next ((hp 85).trans rfl) rfl ?_
          refine r_cv (bs := [.inl 3]) (st' := []) ((hp 86).trans rfl) (hw.o (i := 3) (by decide) rfl) rfl rfl (Nat.le_of_ble_eq_true rfl) (Nat.le_of_ble_eq_true rfl) (am_R.post H (fun v g12 hq => ?_))
          obtain ⟨rfl, hw, H⟩ := hq
          change am_R _ _ _ _ _ [] _ _
          exact H
    · have H := H.2 c16
      refine am_R.next ((hp 29).trans rfl) rfl ?_
      refine r_getR ((hp 30).trans rfl) (hw.o (i := 2) (by decide) rfl) (hw.r wr_2_0) ?_
      refine am_R.next ((hp 33).trans rfl) rfl ?_
      refine r_cv (bs := [.inl 4]) (st' := []) ((hp 34).trans rfl) (hw.o (i := 3) (by decide) rfl) rfl rfl (Nat.le_of_ble_eq_true rfl) (Nat.le_of_ble_eq_true rfl) (am_R.post H (fun v g15 hq => ?_))
      obtain ⟨rfl, hw, H⟩ := hq
      change am_R _ _ _ _ _ [] _ _
      exact am_R.ret ((hp 37).trans rfl) rfl H
theorem w_Reader_readSleeper_89 {scr : Nat × (Nat → Int)} {d : Nat} {h : am_H} {Q : Option am_V → am_H → Prop} (hs : am_sc scr) (hw : wf h) (H : am_isO h (h.2.2.2 2 3) 1 ∧ (am_R (am_prog scr) d f_Tokens_wantNumber 0 [some (.inr (.inr ((3 : Nat) : Int))), some (.inl 0), some (.inl (am_w ((h.2.2.2 ((h.2.2.2 2 3).toNat) 1) - 1))), none] [] h (fun v g2 => ∃ r3 : Int, v = some (.inl r3) ∧ wf g2 ∧ (am_R (am_prog scr) d f_Tokens_want 0 [some (.inr (.inr ((3 : Nat) : Int))), some (.inr (.inr (-10)))] [] g2 (fun v g4 => v = none ∧ wf g4 ∧ (am_R (am_prog scr) d f_Tokens_wantNumber 0 [some (.inr (.inr ((3 : Nat) : Int))), some (.inl 0), some (.inl 9), none] [] g4 (fun v g5 => ∃ r6 : Int, v = some (.inl r6) ∧ wf g5 ∧ (am_isO g5 (g5.2.2.2 2 3) 1 ∧ (am_isO g5 (g5.2.2.2 2 3) 1 ∧ ((am_inA g5 (g5.2.2.2 ((g5.2.2.2 2 3).toNat) 5) 1 (g5.2.2.2 ((g5.2.2.2 2 3).toNat) 4)) ∧ ((((g5.2.2.2 ((g5.2.2.2 2 3).toNat) 5).toNat) ∉ wr_o) ∧ (∀ h11 : am_H, h11 = am_put g5 ((g5.2.2.2 ((g5.2.2.2 2 3).toNat) 5).toNat) ((g5.2.2.2 ((g5.2.2.2 2 3).toNat) 4).toNat) r3 → (am_isO h11 (h11.2.2.2 2 3) 1 ∧ (am_isO h11 (h11.2.2.2 2 3) 1 ∧ ((am_inA h11 (h11.2.2.2 ((h11.2.2.2 2 3).toNat) 6) 1 (h11.2.2.2 ((h11.2.2.2 2 3).toNat) 4)) ∧ ((((h11.2.2.2 ((h11.2.2.2 2 3).toNat) 6).toNat) ∉ wr_o) ∧ (∀ h16 : am_H, h16 = am_put h11 ((h11.2.2.2 ((h11.2.2.2 2 3).toNat) 6).toNat) ((h11.2.2.2 ((h11.2.2.2 2 3).toNat) 4).toNat) r6 → (am_isO h16 (h16.2.2.2 2 3) 1 ∧ ((am_isO h16 (h16.2.2.2 2 3) 1) ∧ ((∀ q ∈ wr_l, ¬ (q.1 = ((h16.2.2.2 2 3).toNat) ∧ q.2.1 = 4)) ∧ (∀ h20 : am_H, h20 = am_put h16 ((h16.2.2.2 2 3).toNat) 4 (am_w ((h16.2.2.2 ((h16.2.2.2 2 3).toNat) 4) + 1)) → (Q none h20)))))))))))))))))))))) : am_R (am_prog scr) (d + 1) f_Reader_readSleeper 89 [some (.inr (.inr ((2 : Nat) : Int))), none, none] [] h Q := by
  have hp : ∀ k, (am_prog scr).1 f_Reader_readSleeper k = c_Reader_readSleeper k := fun _ => rfl
  refine am_R.next ((hp 89).trans rfl) rfl ?_
  refine r_getR ((hp 90).trans rfl) (hw.o (i := 2) (by decide) rfl) (hw.r wr_2_0) ?_
  refine am_R.next ((hp 93).trans rfl) rfl ?_
  refine am_R.next ((hp 94).trans rfl) rfl ?_
  refine r_getR ((hp 95).trans rfl) (hw.o (i := 2) (by decide) rfl) rfl ?_
  obtain ⟨c1, H⟩ := H
  refine r_getI ((hp 98).trans rfl) c1 ?_
  refine am_R.next ((hp 101).trans rfl) rfl ?_
  refine am_R.next ((hp 102).trans rfl) rfl ?_
  refine r_cv (bs := [.inl 0, .inl (am_w ((h.2.2.2 ((h.2.2.2 2 3).toNat) 1) - 1))]) (st' := []) ((hp 103).trans rfl) (hw.o (i := 3) (by decide) rfl) rfl rfl (Nat.le_of_ble_eq_true rfl) (Nat.le_of_ble_eq_true rfl) (am_R.post H (fun v g2 hq => ?_))
  obtain ⟨r3, rfl, hw, H⟩ := hq
  change am_R _ _ _ _ _ [.inl r3] _ _
  refine am_R.next (lv' := [some (.inr (.inr ((2 : Nat) : Int))), some (.inl r3), none]) ((hp 106).trans rfl) rfl ?_
  refine am_R.next ((hp 107).trans rfl) rfl ?_
  refine r_getR ((hp 108).trans rfl) (hw.o (i := 2) (by decide) rfl) (hw.r wr_2_0) ?_
  refine am_R.next ((hp 111).trans rfl) rfl ?_
  refine r_cv (bs := [.inr (.inr (-10))]) (st' := []) ((hp 113).trans rfl) (hw.o (i := 3) (by decide) rfl) rfl rfl (Nat.le_of_ble_eq_true rfl) (Nat.le_of_ble_eq_true rfl) (am_R.post H (fun v g4 hq => ?_))
  obtain ⟨rfl, hw, H⟩ := hq
  change am_R _ _ _ _ _ [] _ _
  refine am_R.next ((hp 116).trans rfl) rfl ?_
  refine r_getR ((hp 117).trans rfl) (hw.o (i := 2) (by decide) rfl) (hw.r wr_2_0) ?_
  refine am_R.next ((hp 120).trans rfl) rfl ?_
  refine am_R.next ((hp 121).trans rfl) rfl ?_
  refine r_cv (bs := [.inl 0, .inl 9]) (st' := []) ((hp 123).trans rfl) (hw.o (i := 3) (by decide) rfl) rfl rfl (Nat.le_of_ble_eq_true rfl) (Nat.le_of_ble_eq_true rfl) (am_R.post H (fun v g5 hq => ?_))
  obtain ⟨r6, rfl, hw, H⟩ := hq
  change am_R _ _ _ _ _ [.inl r6] _ _
  refine am_R.next (lv' := [some (.inr (.inr ((2 : Nat) : Int))), some (.inl r3), some (.inl r6)]) ((hp 126).trans rfl) rfl ?_
  refine am_R.next ((hp 127).trans rfl) rfl ?_
  refine r_getR ((hp 128).trans rfl) (hw.o (i := 2) (by decide) rfl) rfl ?_
  obtain ⟨c7, H⟩ := H
  refine r_getR ((hp 131).trans rfl) c7 rfl ?_
  refine am_R.next ((hp 134).trans rfl) rfl ?_
  refine r_getR ((hp 135).trans rfl) (hw.o (i := 2) (by decide) rfl) rfl ?_
  obtain ⟨c8, H⟩ := H
  refine r_getI ((hp 138).trans rfl) c8 ?_
  refine am_R.next ((hp 141).trans rfl) rfl ?_
  obtain ⟨c9, H⟩ := H
  obtain ⟨c10, H⟩ := H
  obtain ⟨h11, eh11⟩ : ∃ z : am_H, z = am_put g5 ((g5.2.2.2 ((g5.2.2.2 2 3).toNat) 5).toNat) ((g5.2.2.2 ((g5.2.2.2 2 3).toNat) 4).toNat) r3 := ⟨_, rfl⟩
  have H := H h11 eh11
  refine r_iast ((hp 142).trans rfl) c9 ?_
  have hw : wf h11 := by rw [eh11]; exact hw.pa c10
  change am_R _ _ _ _ _ _ (am_put g5 ((g5.2.2.2 ((g5.2.2.2 2 3).toNat) 5).toNat) ((g5.2.2.2 ((g5.2.2.2 2 3).toNat) 4).toNat) r3) _
  rw [← eh11]
  refine am_R.next ((hp 143).trans rfl) rfl ?_
  refine r_getR ((hp 144).trans rfl) (hw.o (i := 2) (by decide) rfl) rfl ?_
  obtain ⟨c12, H⟩ := H
  refine r_getR ((hp 147).trans rfl) c12 rfl ?_
  refine am_R.next ((hp 150).trans rfl) rfl ?_
  refine r_getR ((hp 151).trans rfl) (hw.o (i := 2) (by decide) rfl) rfl ?_
  obtain ⟨c13, H⟩ := H
  refine r_getI ((hp 154).trans rfl) c13 ?_
  refine am_R.next ((hp 157).trans rfl) rfl ?_
  obtain ⟨c14, H⟩ := H
  obtain ⟨c15, H⟩ := H
  obtain ⟨h16, eh16⟩ : ∃ z : am_H, z = am_put h11 ((h11.2.2.2 ((h11.2.2.2 2 3).toNat) 6).toNat) ((h11.2.2.2 ((h11.2.2.2 2 3).toNat) 4).toNat) r6 := ⟨_, rfl⟩
  have H := H h16 eh16
  refine r_iast ((hp 158).trans rfl) c14 ?_
  have hw : wf h16 := by rw [eh16]; exact hw.pa c15
  change am_R _ _ _ _ _ _ (am_put h11 ((h11.2.2.2 ((h11.2.2.2 2 3).toNat) 6).toNat) ((h11.2.2.2 ((h11.2.2.2 2 3).toNat) 4).toNat) r6) _
  rw [← eh16]
  refine am_R.next ((hp 159).trans rfl) rfl ?_
  refine r_getR ((hp 160).trans rfl) (hw.o (i := 2) (by decide) rfl) rfl ?_
  refine am_R.next ((hp 163).trans rfl) rfl ?_
  obtain ⟨c17, H⟩ := H
  refine r_getI ((hp 164).trans rfl) c17 ?_
  refine am_R.next ((hp 167).trans rfl) rfl ?_
  refine am_R.next ((hp 168).trans rfl) rfl ?_
  obtain ⟨c18, H⟩ := H
  obtain ⟨c19, H⟩ := H
  obtain ⟨h20, eh20⟩ : ∃ z : am_H, z = am_put h16 ((h16.2.2.2 2 3).toNat) 4 (am_w ((h16.2.2.2 ((h16.2.2.2 2 3).toNat) 4) + 1)) := ⟨_, rfl⟩
  have H := H h20 eh20
  refine r_putI ((hp 169).trans rfl) c18 ?_
  have hw : wf h20 := by rw [eh20]; exact hw.put c19
  change am_R _ _ _ _ _ _ (am_put h16 ((h16.2.2.2 2 3).toNat) 4 (am_w ((h16.2.2.2 ((h16.2.2.2 2 3).toNat) 4) + 1))) _
  rw [← eh20]
  exact am_R.ret ((hp 172).trans rfl) rfl H
theorem w_Reader_readLaw_0 {scr : Nat × (Nat → Int)} {d : Nat} {h : am_H} {Q : Option am_V → am_H → Prop} (hs : am_sc scr) (hw : wf h) (H : am_R (am_prog scr) d f_Tokens_advance 0 [some (.inr (.inr ((3 : Nat) : Int))), none] [] h (fun v g1 => v = none ∧ wf g1 ∧ (am_R (am_prog scr) d f_Tokens_want 0 [some (.inr (.inr ((3 : Nat) : Int))), some (.inr (.inr (-16)))] [] g1 (fun v g2 => v = none ∧ wf g2 ∧ (∀ h3 : am_H, h3 = am_put g2 2 2 0 → (am_R (am_prog scr) d f_Reader_readSum 0 [some (.inr (.inr ((2 : Nat) : Int))), some (.inl 0), none, none, none, none] [] h3 (fun v g4 => v = none ∧ wf g4 ∧ (am_R (am_prog scr) d f_jA_copyOf 0 [some (.inr (.inr ((5 : Nat) : Int))), some (.inl (g4.2.2.2 2 2)), none] [] g4 (fun v g5 => ∃ r6 : Int, v = some (.inr (.inr r6)) ∧ wf g5 ∧ (-1 ≤ r6 ∧ Q (some (.inr (.inr r6))) g5)))))))))) : am_R (am_prog scr) (d + 1) f_Reader_readLaw 0 [some (.inr (.inr ((2 : Nat) : Int)))] [] h Q := by
  have hp : ∀ k, (am_prog scr).1 f_Reader_readLaw k = c_Reader_readLaw k := fun _ => rfl
  refine am_R.next ((hp 0).trans rfl) rfl ?_
  refine r_getR ((hp 1).trans rfl) (hw.o (i := 2) (by decide) rfl) (hw.r wr_2_0) ?_
  refine r_cv (bs := []) (st' := []) ((hp 4).trans rfl) (hw.o (i := 3) (by decide) rfl) rfl rfl (Nat.le_of_ble_eq_true rfl) (Nat.le_of_ble_eq_true rfl) (am_R.post H (fun v g1 hq => ?_))
  obtain ⟨rfl, hw, H⟩ := hq
  change am_R _ _ _ _ _ [] _ _
  refine am_R.next ((hp 7).trans rfl) rfl ?_
  refine r_getR ((hp 8).trans rfl) (hw.o (i := 2) (by decide) rfl) (hw.r wr_2_0) ?_
  refine am_R.next ((hp 11).trans rfl) rfl ?_
  refine r_cv (bs := [.inr (.inr (-16))]) (st' := []) ((hp 13).trans rfl) (hw.o (i := 3) (by decide) rfl) rfl rfl (Nat.le_of_ble_eq_true rfl) (Nat.le_of_ble_eq_true rfl) (am_R.post H (fun v g2 hq => ?_))
  obtain ⟨rfl, hw, H⟩ := hq
  change am_R _ _ _ _ _ [] _ _
  refine am_R.next ((hp 16).trans rfl) rfl ?_
  refine am_R.next ((hp 17).trans rfl) rfl ?_
  obtain ⟨h3, eh3⟩ : ∃ z : am_H, z = am_put g2 2 2 0 := ⟨_, rfl⟩
  have H := H h3 eh3
  refine r_putI ((hp 18).trans rfl) (hw.o (i := 2) (by decide) rfl) ?_
  have hw : wf h3 := by rw [eh3]; exact hw.put np_2_2
  change am_R _ _ _ _ _ _ (am_put g2 2 2 0) _
  rw [← eh3]
  refine am_R.next ((hp 21).trans rfl) rfl ?_
  refine am_R.next ((hp 22).trans rfl) rfl ?_
  refine r_cv (bs := [.inl 0]) (st' := []) ((hp 23).trans rfl) (hw.o (i := 2) (by decide) rfl) rfl rfl (Nat.le_of_ble_eq_true rfl) (Nat.le_of_ble_eq_true rfl) (am_R.post H (fun v g4 hq => ?_))
  obtain ⟨rfl, hw, H⟩ := hq
  change am_R _ _ _ _ _ [] _ _
  refine am_R.next ((hp 26).trans rfl) rfl ?_
  refine r_getR ((hp 27).trans rfl) (hw.o (i := 2) (by decide) rfl) (hw.r wr_2_1) ?_
  refine am_R.next ((hp 30).trans rfl) rfl ?_
  refine r_getI ((hp 31).trans rfl) (hw.o (i := 2) (by decide) rfl) ?_
  refine r_cs (as := [.inr (.inr ((5 : Nat) : Int)), .inl (g4.2.2.2 2 2)]) (st' := []) ((hp 34).trans rfl) rfl rfl (Nat.le_of_ble_eq_true rfl) (Nat.le_of_ble_eq_true rfl) (am_R.post H (fun v g5 hq => ?_))
  obtain ⟨r6, rfl, hw, H⟩ := hq
  change am_R _ _ _ _ _ [.inr (.inr r6)] _ _
  obtain ⟨c7, H⟩ := H
  exact r_aret ((hp 37).trans rfl) c7 H
theorem w_Reader_readSum_0 {scr : Nat × (Nat → Int)} {d : Nat} {h : am_H} {Q : Option am_V → am_H → Prop} {x1 : Int} (hs : am_sc scr) (hw : wf h) (H : am_R (am_prog scr) (d + 1) f_Reader_readSum 7 [some (.inr (.inr ((2 : Nat) : Int))), some (.inl x1), some (.inl 0), some (.inl 1), some (.inl 0), none] [] h Q) : am_R (am_prog scr) (d + 1) f_Reader_readSum 0 [some (.inr (.inr ((2 : Nat) : Int))), some (.inl x1), none, none, none, none] [] h Q := by
  have hp : ∀ k, (am_prog scr).1 f_Reader_readSum k = c_Reader_readSum k := fun _ => rfl
  refine am_R.next ((hp 0).trans rfl) rfl ?_
  refine am_R.next (lv' := [some (.inr (.inr ((2 : Nat) : Int))), some (.inl x1), some (.inl 0), none, none, none]) ((hp 1).trans rfl) rfl ?_
  refine am_R.next ((hp 2).trans rfl) rfl ?_
  refine am_R.next (lv' := [some (.inr (.inr ((2 : Nat) : Int))), some (.inl x1), some (.inl 0), some (.inl 1), none, none]) ((hp 3).trans rfl) rfl ?_
  refine am_R.next ((hp 4).trans rfl) rfl ?_
  refine am_R.next (lv' := [some (.inr (.inr ((2 : Nat) : Int))), some (.inl x1), some (.inl 0), some (.inl 1), some (.inl 0), none]) ((hp 5).trans rfl) rfl ?_
  exact H
theorem w_Reader_readSum_7 {scr : Nat × (Nat → Int)} {d : Nat} {h : am_H} {Q : Option am_V → am_H → Prop} {x1 x2 x3 x4 : Int} (hs : am_sc scr) (hw : wf h) (H : (¬ (x4 < 900) → (Q none h)) ∧ (x4 < 900 → ((x3 = 0 → (Q none h)) ∧ (¬ (x3 = 0) → (am_R (am_prog scr) d f_Reader_readAtom 0 [some (.inr (.inr ((2 : Nat) : Int))), some (.inl x1), none] [] h (fun v g1 => v = none ∧ wf g1 ∧ (am_R (am_prog scr) (d + 1) f_Reader_readSum 27 [some (.inr (.inr ((2 : Nat) : Int))), some (.inl x1), some (.inl x2), some (.inl x3), some (.inl x4), some (.inl 0)] [] g1 Q))))))) : am_R (am_prog scr) (d + 1) f_Reader_readSum 7 [some (.inr (.inr ((2 : Nat) : Int))), some (.inl x1), some (.inl x2), some (.inl x3), some (.inl x4), none] [] h Q := by
  have hp : ∀ k, (am_prog scr).1 f_Reader_readSum k = c_Reader_readSum k := fun _ => rfl
  refine am_R.next ((hp 7).trans rfl) rfl ?_
  refine am_R.next ((hp 9).trans rfl) rfl ?_
  refine r_ic ((hp 12).trans rfl) (fun c3 => ?_) (fun c3 => ?_)
  · have H := H.1 c3
    exact am_R.ret ((hp 163).trans rfl) rfl H
  · have H := H.2 (Decidable.not_not.mp c3)
    refine am_R.next ((hp 15).trans rfl) rfl ?_
    refine r_if ((hp 16).trans rfl) (fun c2 => ?_) (fun c2 => ?_)
    · have H := H.1 c2
      exact am_R.ret ((hp 163).trans rfl) rfl H
    · have H := H.2 c2
      refine am_R.next ((hp 19).trans rfl) rfl ?_
      refine am_R.next ((hp 20).trans rfl) rfl ?_
      refine r_cv (bs := [.inl x1]) (st' := []) ((hp 21).trans rfl) (hw.o (i := 2) (by decide) rfl) rfl rfl (Nat.le_of_ble_eq_true rfl) (Nat.le_of_ble_eq_true rfl) (am_R.post H (fun v g1 hq => ?_))
      obtain ⟨rfl, hw, H⟩ := hq
      change am_R _ _ _ _ _ [] _ _
      refine am_R.next ((hp 24).trans rfl) rfl ?_
      refine am_R.next (lv' := [some (.inr (.inr ((2 : Nat) : Int))), some (.inl x1), some (.inl x2), some (.inl x3), some (.inl x4), some (.inl 0)]) ((hp 25).trans rfl) rfl ?_
      exact H
theorem w_Reader_readSum_27 {scr : Nat × (Nat → Int)} {d : Nat} {h : am_H} {Q : Option am_V → am_H → Prop} {x1 x2 x3 x4 x5 : Int} (hs : am_sc scr) (hw : wf h) (H : (¬ (x5 < 900) → (am_R (am_prog scr) (d + 1) f_Reader_readSum 81 [some (.inr (.inr ((2 : Nat) : Int))), some (.inl x1), some (.inl x2), some (.inl x3), some (.inl x4), some (.inl x5)] [] h Q)) ∧ (x5 < 900 → (am_R (am_prog scr) d f_Tokens_isFaultless 0 [some (.inr (.inr ((3 : Nat) : Int)))] [] h (fun v g1 => ∃ r2 : Int, v = some (.inl r2) ∧ wf g1 ∧ ((r2 = 0 → (am_R (am_prog scr) (d + 1) f_Reader_readSum 81 [some (.inr (.inr ((2 : Nat) : Int))), some (.inl x1), some (.inl x2), some (.inl x3), some (.inl x4), some (.inl x5)] [] g1 Q)) ∧ (¬ (r2 = 0) → (am_R (am_prog scr) d f_Tokens_is 0 [some (.inr (.inr ((3 : Nat) : Int))), some (.inr (.inr (-35))), none] [] g1 (fun v g3 => ∃ r4 : Int, v = some (.inl r4) ∧ wf g3 ∧ ((r4 = 0 → (am_R (am_prog scr) (d + 1) f_Reader_readSum 81 [some (.inr (.inr ((2 : Nat) : Int))), some (.inl x1), some (.inl x2), some (.inl x3), some (.inl x4), some (.inl x5)] [] g3 Q)) ∧ (¬ (r4 = 0) → (am_R (am_prog scr) d f_Tokens_advance 0 [some (.inr (.inr ((3 : Nat) : Int))), none] [] g3 (fun v g5 => v = none ∧ wf g5 ∧ (am_R (am_prog scr) d f_Reader_readAtom 0 [some (.inr (.inr ((2 : Nat) : Int))), some (.inl x1), none] [] g5 (fun v g6 => v = none ∧ wf g6 ∧ (am_R (am_prog scr) d f_Reader_append 0 [some (.inr (.inr ((2 : Nat) : Int))), some (.inl (-10))] [] g6 (fun v g7 => v = none ∧ wf g7 ∧ (∀ y8 : Int, y8 = am_w (x5 + 1) → (am_R (am_prog scr) (d + 1) f_Reader_readSum 27 [some (.inr (.inr ((2 : Nat) : Int))), some (.inl x1), some (.inl x2), some (.inl x3), some (.inl x4), some (.inl y8)] [] g7 Q)))))))))))))))))) : am_R (am_prog scr) (d + 1) f_Reader_readSum 27 [some (.inr (.inr ((2 : Nat) : Int))), some (.inl x1), some (.inl x2), some (.inl x3), some (.inl x4), some (.inl x5)] [] h Q := by
  have hp : ∀ k, (am_prog scr).1 f_Reader_readSum k = c_Reader_readSum k := fun _ => rfl
  refine am_R.next ((hp 27).trans rfl) rfl ?_
  refine am_R.next ((hp 29).trans rfl) rfl ?_
  refine r_ic ((hp 32).trans rfl) (fun c11 => ?_) (fun c11 => ?_)
  · have H := H.1 c11
    exact H
  · have H := H.2 (Decidable.not_not.mp c11)
    refine am_R.next ((hp 35).trans rfl) rfl ?_
    refine r_getR ((hp 36).trans rfl) (hw.o (i := 2) (by decide) rfl) (hw.r wr_2_0) ?_
    refine r_cv (bs := []) (st' := []) ((hp 39).trans rfl) (hw.o (i := 3) (by decide) rfl) rfl rfl (Nat.le_of_ble_eq_true rfl) (Nat.le_of_ble_eq_true rfl) (am_R.post H (fun v g1 hq => ?_))
    obtain ⟨r2, rfl, hw, H⟩ := hq
    change am_R _ _ _ _ _ [.inl r2] _ _
    refine r_if ((hp 42).trans rfl) (fun c10 => ?_) (fun c10 => ?_)
    · have H := H.1 c10
      exact H
    · have H := H.2 c10
      refine am_R.next ((hp 45).trans rfl) rfl ?_
      refine r_getR ((hp 46).trans rfl) (hw.o (i := 2) (by decide) rfl) (hw.r wr_2_0) ?_
      refine am_R.next ((hp 49).trans rfl) rfl ?_
      refine r_cv (bs := [.inr (.inr (-35))]) (st' := []) ((hp 51).trans rfl) (hw.o (i := 3) (by decide) rfl) rfl rfl (Nat.le_of_ble_eq_true rfl) (Nat.le_of_ble_eq_true rfl) (am_R.post H (fun v g3 hq => ?_))
      obtain ⟨r4, rfl, hw, H⟩ := hq
      change am_R _ _ _ _ _ [.inl r4] _ _
      refine r_if ((hp 54).trans rfl) (fun c9 => ?_) (fun c9 => ?_)
      · have H := H.1 c9
        exact H
      · have H := H.2 c9
        refine am_R.next ((hp 57).trans rfl) rfl ?_
        refine r_getR ((hp 58).trans rfl) (hw.o (i := 2) (by decide) rfl) (hw.r wr_2_0) ?_
        refine r_cv (bs := []) (st' := []) ((hp 61).trans rfl) (hw.o (i := 3) (by decide) rfl) rfl rfl (Nat.le_of_ble_eq_true rfl) (Nat.le_of_ble_eq_true rfl) (am_R.post H (fun v g5 hq => ?_))
        obtain ⟨rfl, hw, H⟩ := hq
        change am_R _ _ _ _ _ [] _ _
        refine am_R.next ((hp 64).trans rfl) rfl ?_
        refine am_R.next ((hp 65).trans rfl) rfl ?_
        refine r_cv (bs := [.inl x1]) (st' := []) ((hp 66).trans rfl) (hw.o (i := 2) (by decide) rfl) rfl rfl (Nat.le_of_ble_eq_true rfl) (Nat.le_of_ble_eq_true rfl) (am_R.post H (fun v g6 hq => ?_))
        obtain ⟨rfl, hw, H⟩ := hq
        change am_R _ _ _ _ _ [] _ _
        refine am_R.next ((hp 69).trans rfl) rfl ?_
        refine am_R.next ((hp 70).trans rfl) rfl ?_
        refine r_cv (bs := [.inl (-10)]) (st' := []) ((hp 72).trans rfl) (hw.o (i := 2) (by decide) rfl) rfl rfl (Nat.le_of_ble_eq_true rfl) (Nat.le_of_ble_eq_true rfl) (am_R.post H (fun v g7 hq => ?_))
        obtain ⟨rfl, hw, H⟩ := hq
        change am_R _ _ _ _ _ [] _ _
        obtain ⟨y8, ey8⟩ : ∃ z : Int, z = am_w (x5 + 1) := ⟨_, rfl⟩
        have H := H y8 ey8
        refine am_R.next (lv' := [some (.inr (.inr ((2 : Nat) : Int))), some (.inl x1), some (.inl x2), some (.inl x3), some (.inl x4), some (.inl y8)]) (st' := []) (h' := g7) (pc' := 78) ((hp 75).trans rfl) (by rw [ey8]; rfl) ?_
        refine am_R.next ((hp 78).trans rfl) rfl ?_
        exact H
theorem w_Reader_readSum_81 {scr : Nat × (Nat → Int)} {d : Nat} {h : am_H} {Q : Option am_V → am_H → Prop} {x1 x2 x3 x4 x5 : Int} (hs : am_sc scr) (hw : wf h) (H : (x2 = 0 → (am_R (am_prog scr) (d + 1) f_Reader_readSum 90 [some (.inr (.inr ((2 : Nat) : Int))), some (.inl x1), some (.inl x2), some (.inl x3), some (.inl x4), some (.inl x5)] [] h Q)) ∧ (¬ (x2 = 0) → (am_R (am_prog scr) d f_Reader_append 0 [some (.inr (.inr ((2 : Nat) : Int))), some (.inl x2)] [] h (fun v g1 => v = none ∧ wf g1 ∧ (am_R (am_prog scr) (d + 1) f_Reader_readSum 90 [some (.inr (.inr ((2 : Nat) : Int))), some (.inl x1), some (.inl x2), some (.inl x3), some (.inl x4), some (.inl x5)] [] g1 Q))))) : am_R (am_prog scr) (d + 1) f_Reader_readSum 81 [some (.inr (.inr ((2 : Nat) : Int))), some (.inl x1), some (.inl x2), some (.inl x3), some (.inl x4), some (.inl x5)] [] h Q := by
  have hp : ∀ k, (am_prog scr).1 f_Reader_readSum k = c_Reader_readSum k := fun _ => rfl
  refine am_R.next ((hp 81).trans rfl) rfl ?_
  refine r_if ((hp 82).trans rfl) (fun c2 => ?_) (fun c2 => ?_)
  · have H := H.1 c2
    exact H
  · have H := H.2 c2
    refine am_R.next ((hp 85).trans rfl) rfl ?_
    refine am_R.next ((hp 86).trans rfl) rfl ?_
    refine r_cv (bs := [.inl x2]) (st' := []) ((hp 87).trans rfl) (hw.o (i := 2) (by decide) rfl) rfl rfl (Nat.le_of_ble_eq_true rfl) (Nat.le_of_ble_eq_true rfl) (am_R.post H (fun v g1 hq => ?_))
    obtain ⟨rfl, hw, H⟩ := hq
    change am_R _ _ _ _ _ [] _ _
    exact H
theorem w_Reader_readSum_90 {scr : Nat × (Nat → Int)} {d : Nat} {h : am_H} {Q : Option am_V → am_H → Prop} {x1 x2 x3 x4 x5 : Int} (hs : am_sc scr) (hw : wf h) (H : am_R (am_prog scr) d f_Tokens_is 0 [some (.inr (.inr ((3 : Nat) : Int))), some (.inr (.inr (-36))), none] [] h (fun v g1 => ∃ r2 : Int, v = some (.inl r2) ∧ wf g1 ∧ ((r2 = 0 → (am_R (am_prog scr) d f_Tokens_is 0 [some (.inr (.inr ((3 : Nat) : Int))), some (.inr (.inr (-37))), none] [] g1 (fun v g3 => ∃ r4 : Int, v = some (.inl r4) ∧ wf g3 ∧ ((r4 = 0 → (am_R (am_prog scr) d f_Tokens_isFaultless 0 [some (.inr (.inr ((3 : Nat) : Int)))] [] g3 (fun v g5 => ∃ r6 : Int, v = some (.inl r6) ∧ wf g5 ∧ ((r6 = 0 → (am_R (am_prog scr) (d + 1) f_Reader_readSum 144 [some (.inr (.inr ((2 : Nat) : Int))), some (.inl x1), some (.inl 0), some (.inl x3), some (.inl x4), some (.inl x5)] [] g5 Q)) ∧ (¬ (r6 = 0) → (((0 : Int) = 0 → (am_R (am_prog scr) (d + 1) f_Reader_readSum 144 [some (.inr (.inr ((2 : Nat) : Int))), some (.inl x1), some (.inl 0), some (.inl x3), some (.inl x4), some (.inl x5)] [] g5 Q)) ∧ (¬ ((0 : Int) = 0) → (((1 : Int) = 0 → (∀ y7 : Int, y7 = am_w (x4 + 1) → (am_R (am_prog scr) (d + 1) f_Reader_readSum 7 [some (.inr (.inr ((2 : Nat) : Int))), some (.inl x1), some (.inl 0), some (.inl 1), some (.inl y7), none] [] g5 Q))) ∧ (¬ ((1 : Int) = 0) → (am_R (am_prog scr) d f_Tokens_advance 0 [some (.inr (.inr ((3 : Nat) : Int))), none] [] g5 (fun v g8 => v = none ∧ wf g8 ∧ (∀ y9 : Int, y9 = am_w (x4 + 1) → (am_R (am_prog scr) (d + 1) f_Reader_readSum 7 [some (.inr (.inr ((2 : Nat) : Int))), some (.inl x1), some (.inl 0), some (.inl 1), some (.inl y9), none] [] g8 Q))))))))))))) ∧ (¬ (r4 = 0) → (am_R (am_prog scr) d f_Tokens_isFaultless 0 [some (.inr (.inr ((3 : Nat) : Int)))] [] g3 (fun v g13 => ∃ r14 : Int, v = some (.inl r14) ∧ wf g13 ∧ ((r14 = 0 → (am_R (am_prog scr) (d + 1) f_Reader_readSum 144 [some (.inr (.inr ((2 : Nat) : Int))), some (.inl x1), some (.inl (-9)), some (.inl x3), some (.inl x4), some (.inl x5)] [] g13 Q)) ∧ (¬ (r14 = 0) → ((((-9) : Int) = 0 → (am_R (am_prog scr) (d + 1) f_Reader_readSum 144 [some (.inr (.inr ((2 : Nat) : Int))), some (.inl x1), some (.inl (-9)), some (.inl x3), some (.inl x4), some (.inl x5)] [] g13 Q)) ∧ (¬ (((-9) : Int) = 0) → (((1 : Int) = 0 → (∀ y15 : Int, y15 = am_w (x4 + 1) → (am_R (am_prog scr) (d + 1) f_Reader_readSum 7 [some (.inr (.inr ((2 : Nat) : Int))), some (.inl x1), some (.inl (-9)), some (.inl 1), some (.inl y15), none] [] g13 Q))) ∧ (¬ ((1 : Int) = 0) → (am_R (am_prog scr) d f_Tokens_advance 0 [some (.inr (.inr ((3 : Nat) : Int))), none] [] g13 (fun v g16 => v = none ∧ wf g16 ∧ (∀ y17 : Int, y17 = am_w (x4 + 1) → (am_R (am_prog scr) (d + 1) f_Reader_readSum 7 [some (.inr (.inr ((2 : Nat) : Int))), some (.inl x1), some (.inl (-9)), some (.inl 1), some (.inl y17), none] [] g16 Q))))))))))))))))) ∧ (¬ (r2 = 0) → (am_R (am_prog scr) d f_Tokens_isFaultless 0 [some (.inr (.inr ((3 : Nat) : Int)))] [] g1 (fun v g22 => ∃ r23 : Int, v = some (.inl r23) ∧ wf g22 ∧ ((r23 = 0 → (am_R (am_prog scr) (d + 1) f_Reader_readSum 144 [some (.inr (.inr ((2 : Nat) : Int))), some (.inl x1), some (.inl (-8)), some (.inl x3), some (.inl x4), some (.inl x5)] [] g22 Q)) ∧ (¬ (r23 = 0) → ((((-8) : Int) = 0 → (am_R (am_prog scr) (d + 1) f_Reader_readSum 144 [some (.inr (.inr ((2 : Nat) : Int))), some (.inl x1), some (.inl (-8)), some (.inl x3), some (.inl x4), some (.inl x5)] [] g22 Q)) ∧ (¬ (((-8) : Int) = 0) → (((1 : Int) = 0 → (∀ y24 : Int, y24 = am_w (x4 + 1) → (am_R (am_prog scr) (d + 1) f_Reader_readSum 7 [some (.inr (.inr ((2 : Nat) : Int))), some (.inl x1), some (.inl (-8)), some (.inl 1), some (.inl y24), none] [] g22 Q))) ∧ (¬ ((1 : Int) = 0) → (am_R (am_prog scr) d f_Tokens_advance 0 [some (.inr (.inr ((3 : Nat) : Int))), none] [] g22 (fun v g25 => v = none ∧ wf g25 ∧ (∀ y26 : Int, y26 = am_w (x4 + 1) → (am_R (am_prog scr) (d + 1) f_Reader_readSum 7 [some (.inr (.inr ((2 : Nat) : Int))), some (.inl x1), some (.inl (-8)), some (.inl 1), some (.inl y26), none] [] g25 Q)))))))))))))))) : am_R (am_prog scr) (d + 1) f_Reader_readSum 90 [some (.inr (.inr ((2 : Nat) : Int))), some (.inl x1), some (.inl x2), some (.inl x3), some (.inl x4), some (.inl x5)] [] h Q := by
  have hp : ∀ k, (am_prog scr).1 f_Reader_readSum k = c_Reader_readSum k := fun _ => rfl
  refine am_R.next ((hp 90).trans rfl) rfl ?_
  refine r_getR ((hp 91).trans rfl) (hw.o (i := 2) (by decide) rfl) (hw.r wr_2_0) ?_
  refine am_R.next ((hp 94).trans rfl) rfl ?_
  refine r_cv (bs := [.inr (.inr (-36))]) (st' := []) ((hp 96).trans rfl) (hw.o (i := 3) (by decide) rfl) rfl rfl (Nat.le_of_ble_eq_true rfl) (Nat.le_of_ble_eq_true rfl) (am_R.post H (fun v g1 hq => ?_))
  obtain ⟨r2, rfl, hw, H⟩ := hq
  change am_R _ _ _ _ _ [.inl r2] _ _
  refine r_if ((hp 99).trans rfl) (fun c30 => ?_) (fun c30 => ?_)
  · have H := H.1 c30
    refine am_R.next ((hp 107).trans rfl) rfl ?_
    refine r_getR ((hp 108).trans rfl) (hw.o (i := 2) (by decide) rfl) (hw.r wr_2_0) ?_
    refine am_R.next ((hp 111).trans rfl) rfl ?_
    refine r_cv (bs := [.inr (.inr (-37))]) (st' := []) ((hp 113).trans rfl) (hw.o (i := 3) (by decide) rfl) rfl rfl (Nat.le_of_ble_eq_true rfl) (Nat.le_of_ble_eq_true rfl) (am_R.post H (fun v g3 hq => ?_))
    obtain ⟨r4, rfl, hw, H⟩ := hq
    change am_R _ _ _ _ _ [.inl r4] _ _
    refine r_if ((hp 116).trans rfl) (fun c21 => ?_) (fun c21 => ?_)
    · have H := H.1 c21
      refine am_R.next ((hp 124).trans rfl) rfl ?_
      refine am_R.next (lv' := [some (.inr (.inr ((2 : Nat) : Int))), some (.inl x1), some (.inl 0), some (.inl x3), some (.inl x4), some (.inl x5)]) ((hp 125).trans rfl) rfl ?_
      refine am_R.next ((hp 126).trans rfl) rfl ?_
      refine r_getR ((hp 127).trans rfl) (hw.o (i := 2) (by decide) rfl) (hw.r wr_2_0) ?_
      refine r_cv (bs := []) (st' := []) ((hp 130).trans rfl) (hw.o (i := 3) (by decide) rfl) rfl rfl (Nat.le_of_ble_eq_true rfl) (Nat.le_of_ble_eq_true rfl) (am_R.post H (fun v g5 hq => ?_))
      obtain ⟨r6, rfl, hw, H⟩ := hq
      change am_R _ _ _ _ _ [.inl r6] _ _
      refine r_if ((hp 133).trans rfl) (fun c12 => ?_) (fun c12 => ?_)
      · have H := H.1 c12
        exact H
      · have H := H.2 c12
        refine am_R.next ((hp 136).trans rfl) rfl ?_
        refine r_if ((hp 137).trans rfl) (fun c11 => ?_) (fun c11 => ?_)
        · have H := H.1 c11
          exact H
        · have H := H.2 c11
          refine am_R.next ((hp 140).trans rfl) rfl ?_
          refine am_R.next ((hp 141).trans rfl) rfl ?_
          refine am_R.next (lv' := [some (.inr (.inr ((2 : Nat) : Int))), some (.inl x1), some (.inl 0), some (.inl 1), some (.inl x4), some (.inl x5)]) ((hp 145).trans rfl) rfl ?_
          refine am_R.next ((hp 146).trans rfl) rfl ?_
          refine r_if ((hp 147).trans rfl) (fun c10 => ?_) (fun c10 => ?_)
          · have H := H.1 c10
            obtain ⟨y7, ey7⟩ : ∃ z : Int, z = am_w (x4 + 1) := ⟨_, rfl⟩
            have H := H y7 ey7
            refine am_R.next (lv' := [some (.inr (.inr ((2 : Nat) : Int))), some (.inl x1), some (.inl 0), some (.inl 1), some (.inl y7), some (.inl x5)]) (st' := []) (h' := g5) (pc' := 160) ((hp 157).trans rfl) (by rw [ey7]; rfl) ?_
            refine am_R.next ((hp 160).trans rfl) rfl ?_
            exact r_le hs in_228 (le_k (le_k (le_k (le_k (le_k (le_d le_n)))))) H
          · have H := H.2 c10
            refine am_R.next ((hp 150).trans rfl) rfl ?_
            refine r_getR ((hp 151).trans rfl) (hw.o (i := 2) (by decide) rfl) (hw.r wr_2_0) ?_
            refine r_cv (bs := []) (st' := []) ((hp 154).trans rfl) (hw.o (i := 3) (by decide) rfl) rfl rfl (Nat.le_of_ble_eq_true rfl) (Nat.le_of_ble_eq_true rfl) (am_R.post H (fun v g8 hq => ?_))
            obtain ⟨rfl, hw, H⟩ := hq
            change am_R _ _ _ _ _ [] _ _
            obtain ⟨y9, ey9⟩ : ∃ z : Int, z = am_w (x4 + 1) := ⟨_, rfl⟩
            have H := H y9 ey9
            refine am_R.next (lv' := [some (.inr (.inr ((2 : Nat) : Int))), some (.inl x1), some (.inl 0), some (.inl 1), some (.inl y9), some (.inl x5)]) (st' := []) (h' := g8) (pc' := 160) ((hp 157).trans rfl) (by rw [ey9]; rfl) ?_
            refine am_R.next ((hp 160).trans rfl) rfl ?_
            exact r_le hs in_228 (le_k (le_k (le_k (le_k (le_k (le_d le_n)))))) H
    · have H := H.2 c21
      refine am_R.next ((hp 119).trans rfl) rfl ?_
      refine am_R.next ((hp 121).trans rfl) rfl ?_
      refine am_R.next (lv' := [some (.inr (.inr ((2 : Nat) : Int))), some (.inl x1), some (.inl (-9)), some (.inl x3), some (.inl x4), some (.inl x5)]) ((hp 125).trans rfl) rfl ?_
      refine am_R.next ((hp 126).trans rfl) rfl ?_
      refine r_getR ((hp 127).trans rfl) (hw.o (i := 2) (by decide) rfl) (hw.r wr_2_0) ?_
      refine r_cv (bs := []) (st' := []) ((hp 130).trans rfl) (hw.o (i := 3) (by decide) rfl) rfl rfl (Nat.le_of_ble_eq_true rfl) (Nat.le_of_ble_eq_true rfl) (am_R.post H (fun v g13 hq => ?_))
      obtain ⟨r14, rfl, hw, H⟩ := hq
      change am_R _ _ _ _ _ [.inl r14] _ _
      refine r_if ((hp 133).trans rfl) (fun c20 => ?_) (fun c20 => ?_)
      · have H := H.1 c20
        exact H
      · have H := H.2 c20
        refine am_R.next ((hp 136).trans rfl) rfl ?_
        refine r_if ((hp 137).trans rfl) (fun c19 => ?_) (fun c19 => ?_)
        · have H := H.1 c19
          exact H
        · have H := H.2 c19
          refine am_R.next ((hp 140).trans rfl) rfl ?_
          refine am_R.next ((hp 141).trans rfl) rfl ?_
          refine am_R.next (lv' := [some (.inr (.inr ((2 : Nat) : Int))), some (.inl x1), some (.inl (-9)), some (.inl 1), some (.inl x4), some (.inl x5)]) ((hp 145).trans rfl) rfl ?_
          refine am_R.next ((hp 146).trans rfl) rfl ?_
          refine r_if ((hp 147).trans rfl) (fun c18 => ?_) (fun c18 => ?_)
          · have H := H.1 c18
            obtain ⟨y15, ey15⟩ : ∃ z : Int, z = am_w (x4 + 1) := ⟨_, rfl⟩
            have H := H y15 ey15
            refine am_R.next (lv' := [some (.inr (.inr ((2 : Nat) : Int))), some (.inl x1), some (.inl (-9)), some (.inl 1), some (.inl y15), some (.inl x5)]) (st' := []) (h' := g13) (pc' := 160) ((hp 157).trans rfl) (by rw [ey15]; rfl) ?_
            refine am_R.next ((hp 160).trans rfl) rfl ?_
            exact r_le hs in_228 (le_k (le_k (le_k (le_k (le_k (le_d le_n)))))) H
          · have H := H.2 c18
            refine am_R.next ((hp 150).trans rfl) rfl ?_
            refine r_getR ((hp 151).trans rfl) (hw.o (i := 2) (by decide) rfl) (hw.r wr_2_0) ?_
            refine r_cv (bs := []) (st' := []) ((hp 154).trans rfl) (hw.o (i := 3) (by decide) rfl) rfl rfl (Nat.le_of_ble_eq_true rfl) (Nat.le_of_ble_eq_true rfl) (am_R.post H (fun v g16 hq => ?_))
            obtain ⟨rfl, hw, H⟩ := hq
            change am_R _ _ _ _ _ [] _ _
            obtain ⟨y17, ey17⟩ : ∃ z : Int, z = am_w (x4 + 1) := ⟨_, rfl⟩
            have H := H y17 ey17
            refine am_R.next (lv' := [some (.inr (.inr ((2 : Nat) : Int))), some (.inl x1), some (.inl (-9)), some (.inl 1), some (.inl y17), some (.inl x5)]) (st' := []) (h' := g16) (pc' := 160) ((hp 157).trans rfl) (by rw [ey17]; rfl) ?_
            refine am_R.next ((hp 160).trans rfl) rfl ?_
            exact r_le hs in_228 (le_k (le_k (le_k (le_k (le_k (le_d le_n)))))) H
  · have H := H.2 c30
    refine am_R.next ((hp 102).trans rfl) rfl ?_
    refine am_R.next ((hp 104).trans rfl) rfl ?_
    refine am_R.next (lv' := [some (.inr (.inr ((2 : Nat) : Int))), some (.inl x1), some (.inl (-8)), some (.inl x3), some (.inl x4), some (.inl x5)]) ((hp 125).trans rfl) rfl ?_
    refine am_R.next ((hp 126).trans rfl) rfl ?_
    refine r_getR ((hp 127).trans rfl) (hw.o (i := 2) (by decide) rfl) (hw.r wr_2_0) ?_
    refine r_cv (bs := []) (st' := []) ((hp 130).trans rfl) (hw.o (i := 3) (by decide) rfl) rfl rfl (Nat.le_of_ble_eq_true rfl) (Nat.le_of_ble_eq_true rfl) (am_R.post H (fun v g22 hq => ?_))
    obtain ⟨r23, rfl, hw, H⟩ := hq
    change am_R _ _ _ _ _ [.inl r23] _ _
    refine r_if ((hp 133).trans rfl) (fun c29 => ?_) (fun c29 => ?_)
    · have H := H.1 c29
      exact H
    · have H := H.2 c29
      refine am_R.next ((hp 136).trans rfl) rfl ?_
      refine r_if ((hp 137).trans rfl) (fun c28 => ?_) (fun c28 => ?_)
      · have H := H.1 c28
        exact H
      · have H := H.2 c28
        refine am_R.next ((hp 140).trans rfl) rfl ?_
        refine am_R.next ((hp 141).trans rfl) rfl ?_
        refine am_R.next (lv' := [some (.inr (.inr ((2 : Nat) : Int))), some (.inl x1), some (.inl (-8)), some (.inl 1), some (.inl x4), some (.inl x5)]) ((hp 145).trans rfl) rfl ?_
        refine am_R.next ((hp 146).trans rfl) rfl ?_
        refine r_if ((hp 147).trans rfl) (fun c27 => ?_) (fun c27 => ?_)
        · have H := H.1 c27
          obtain ⟨y24, ey24⟩ : ∃ z : Int, z = am_w (x4 + 1) := ⟨_, rfl⟩
          have H := H y24 ey24
          refine am_R.next (lv' := [some (.inr (.inr ((2 : Nat) : Int))), some (.inl x1), some (.inl (-8)), some (.inl 1), some (.inl y24), some (.inl x5)]) (st' := []) (h' := g22) (pc' := 160) ((hp 157).trans rfl) (by rw [ey24]; rfl) ?_
          refine am_R.next ((hp 160).trans rfl) rfl ?_
          exact r_le hs in_228 (le_k (le_k (le_k (le_k (le_k (le_d le_n)))))) H
        · have H := H.2 c27
          refine am_R.next ((hp 150).trans rfl) rfl ?_
          refine r_getR ((hp 151).trans rfl) (hw.o (i := 2) (by decide) rfl) (hw.r wr_2_0) ?_
          refine r_cv (bs := []) (st' := []) ((hp 154).trans rfl) (hw.o (i := 3) (by decide) rfl) rfl rfl (Nat.le_of_ble_eq_true rfl) (Nat.le_of_ble_eq_true rfl) (am_R.post H (fun v g25 hq => ?_))
          obtain ⟨rfl, hw, H⟩ := hq
          change am_R _ _ _ _ _ [] _ _
          obtain ⟨y26, ey26⟩ : ∃ z : Int, z = am_w (x4 + 1) := ⟨_, rfl⟩
          have H := H y26 ey26
          refine am_R.next (lv' := [some (.inr (.inr ((2 : Nat) : Int))), some (.inl x1), some (.inl (-8)), some (.inl 1), some (.inl y26), some (.inl x5)]) (st' := []) (h' := g25) (pc' := 160) ((hp 157).trans rfl) (by rw [ey26]; rfl) ?_
          refine am_R.next ((hp 160).trans rfl) rfl ?_
          exact r_le hs in_228 (le_k (le_k (le_k (le_k (le_k (le_d le_n)))))) H
theorem w_Reader_readSum_144 {scr : Nat × (Nat → Int)} {d : Nat} {h : am_H} {Q : Option am_V → am_H → Prop} {x1 x2 x3 x4 x5 : Int} (hs : am_sc scr) (hw : wf h) (H : ((0 : Int) = 0 → (∀ y1 : Int, y1 = am_w (x4 + 1) → (am_R (am_prog scr) (d + 1) f_Reader_readSum 7 [some (.inr (.inr ((2 : Nat) : Int))), some (.inl x1), some (.inl x2), some (.inl 0), some (.inl y1), none] [] h Q))) ∧ (¬ ((0 : Int) = 0) → (am_R (am_prog scr) d f_Tokens_advance 0 [some (.inr (.inr ((3 : Nat) : Int))), none] [] h (fun v g2 => v = none ∧ wf g2 ∧ (∀ y3 : Int, y3 = am_w (x4 + 1) → (am_R (am_prog scr) (d + 1) f_Reader_readSum 7 [some (.inr (.inr ((2 : Nat) : Int))), some (.inl x1), some (.inl x2), some (.inl 0), some (.inl y3), none] [] g2 Q)))))) : am_R (am_prog scr) (d + 1) f_Reader_readSum 144 [some (.inr (.inr ((2 : Nat) : Int))), some (.inl x1), some (.inl x2), some (.inl x3), some (.inl x4), some (.inl x5)] [] h Q := by
  have hp : ∀ k, (am_prog scr).1 f_Reader_readSum k = c_Reader_readSum k := fun _ => rfl
  refine am_R.next ((hp 144).trans rfl) rfl ?_
  refine am_R.next (lv' := [some (.inr (.inr ((2 : Nat) : Int))), some (.inl x1), some (.inl x2), some (.inl 0), some (.inl x4), some (.inl x5)]) ((hp 145).trans rfl) rfl ?_
  refine am_R.next ((hp 146).trans rfl) rfl ?_
  refine r_if ((hp 147).trans rfl) (fun c4 => ?_) (fun c4 => ?_)
  · have H := H.1 c4
    obtain ⟨y1, ey1⟩ : ∃ z : Int, z = am_w (x4 + 1) := ⟨_, rfl⟩
    have H := H y1 ey1
    refine am_R.next (lv' := [some (.inr (.inr ((2 : Nat) : Int))), some (.inl x1), some (.inl x2), some (.inl 0), some (.inl y1), some (.inl x5)]) (st' := []) (h' := h) (pc' := 160) ((hp 157).trans rfl) (by rw [ey1]; rfl) ?_
    refine am_R.next ((hp 160).trans rfl) rfl ?_
    exact r_le hs in_228 (le_k (le_k (le_k (le_k (le_k (le_d le_n)))))) H
  · have H := H.2 c4
    refine am_R.next ((hp 150).trans rfl) rfl ?_
    refine r_getR ((hp 151).trans rfl) (hw.o (i := 2) (by decide) rfl) (hw.r wr_2_0) ?_
    refine r_cv (bs := []) (st' := []) ((hp 154).trans rfl) (hw.o (i := 3) (by decide) rfl) rfl rfl (Nat.le_of_ble_eq_true rfl) (Nat.le_of_ble_eq_true rfl) (am_R.post H (fun v g2 hq => ?_))
    obtain ⟨rfl, hw, H⟩ := hq
    change am_R _ _ _ _ _ [] _ _
    obtain ⟨y3, ey3⟩ : ∃ z : Int, z = am_w (x4 + 1) := ⟨_, rfl⟩
    have H := H y3 ey3
    refine am_R.next (lv' := [some (.inr (.inr ((2 : Nat) : Int))), some (.inl x1), some (.inl x2), some (.inl 0), some (.inl y3), some (.inl x5)]) (st' := []) (h' := g2) (pc' := 160) ((hp 157).trans rfl) (by rw [ey3]; rfl) ?_
    refine am_R.next ((hp 160).trans rfl) rfl ?_
    exact r_le hs in_228 (le_k (le_k (le_k (le_k (le_k (le_d le_n)))))) H
theorem w_Reader_readAtom_0 {scr : Nat × (Nat → Int)} {d : Nat} {h : am_H} {Q : Option am_V → am_H → Prop} {x1 : Int} (hs : am_sc scr) (hw : wf h) (H : am_R (am_prog scr) d f_Tokens_isFaultless 0 [some (.inr (.inr ((3 : Nat) : Int)))] [] h (fun v g1 => ∃ r2 : Int, v = some (.inl r2) ∧ wf g1 ∧ ((¬ (r2 = 0) → (am_R (am_prog scr) d f_Reader_valueNamed 0 [some (.inr (.inr ((2 : Nat) : Int)))] [] g1 (fun v g3 => ∃ r4 : Int, v = some (.inl r4) ∧ wf g3 ∧ ((r4 = 0 → (am_R (am_prog scr) d f_Tokens_isNumber 0 [some (.inr (.inr ((3 : Nat) : Int)))] [] g3 (fun v g5 => ∃ r6 : Int, v = some (.inl r6) ∧ wf g5 ∧ ((r6 = 0 → (am_R (am_prog scr) d f_Tokens_is 0 [some (.inr (.inr ((3 : Nat) : Int))), some (.inr (.inr (-21))), none] [] g5 (fun v g7 => ∃ r8 : Int, v = some (.inl r8) ∧ wf g7 ∧ ((r8 = 0 → (am_R (am_prog scr) d f_Tokens_is 0 [some (.inr (.inr ((3 : Nat) : Int))), some (.inr (.inr (-23))), none] [] g7 (fun v g9 => ∃ r10 : Int, v = some (.inl r10) ∧ wf g9 ∧ ((r10 = 0 → (am_R (am_prog scr) d f_Tokens_refuse 0 [some (.inr (.inr ((3 : Nat) : Int))), some (.inl 2)] [] g9 (fun v g11 => v = none ∧ wf g11 ∧ (Q none g11)))) ∧ (¬ (r10 = 0) → (am_R (am_prog scr) d f_Reader_goWithin 0 [some (.inr (.inr ((2 : Nat) : Int))), some (.inl x1)] [] g9 (fun v g12 => ∃ r13 : Int, v = some (.inl r13) ∧ wf g12 ∧ ((r13 = 0 → (Q none g12)) ∧ (¬ (r13 = 0) → (am_R (am_prog scr) d f_Reader_readChoice 0 [some (.inr (.inr ((2 : Nat) : Int))), some (.inl (am_w (x1 + 1))), none, none] [] g12 (fun v g14 => v = none ∧ wf g14 ∧ (Q none g14)))))))))))) ∧ (¬ (r8 = 0) → (am_R (am_prog scr) d f_Reader_goWithin 0 [some (.inr (.inr ((2 : Nat) : Int))), some (.inl x1)] [] g7 (fun v g17 => ∃ r18 : Int, v = some (.inl r18) ∧ wf g17 ∧ ((r18 = 0 → (Q none g17)) ∧ (¬ (r18 = 0) → (am_R (am_prog scr) d f_Reader_readSum 0 [some (.inr (.inr ((2 : Nat) : Int))), some (.inl (am_w (x1 + 1))), none, none, none, none] [] g17 (fun v g19 => v = none ∧ wf g19 ∧ (am_R (am_prog scr) d f_Tokens_want 0 [some (.inr (.inr ((3 : Nat) : Int))), some (.inr (.inr (-22)))] [] g19 (fun v g20 => v = none ∧ wf g20 ∧ (Q none g20)))))))))))))) ∧ (¬ (r6 = 0) → (am_R (am_prog scr) d f_Reader_append 0 [some (.inr (.inr ((2 : Nat) : Int))), some (.inl (g5.2.2.2 3 5))] [] g5 (fun v g23 => v = none ∧ wf g23 ∧ (am_R (am_prog scr) d f_Tokens_advance 0 [some (.inr (.inr ((3 : Nat) : Int))), none] [] g23 (fun v g24 => v = none ∧ wf g24 ∧ (Q none g24)))))))))) ∧ (¬ (r4 = 0) → (am_R (am_prog scr) d f_Tokens_advance 0 [some (.inr (.inr ((3 : Nat) : Int))), none] [] g3 (fun v g26 => v = none ∧ wf g26 ∧ (am_R (am_prog scr) d f_Reader_append 0 [some (.inr (.inr ((2 : Nat) : Int))), some (.inl r4)] [] g26 (fun v g27 => v = none ∧ wf g27 ∧ (Q none g27)))))))))) ∧ (r2 = 0 → (Q none g1))))) : am_R (am_prog scr) (d + 1) f_Reader_readAtom 0 [some (.inr (.inr ((2 : Nat) : Int))), some (.inl x1), none] [] h Q := by
  have hp : ∀ k, (am_prog scr).1 f_Reader_readAtom k = c_Reader_readAtom k := fun _ => rfl
  refine am_R.next ((hp 0).trans rfl) rfl ?_
  refine r_getR ((hp 1).trans rfl) (hw.o (i := 2) (by decide) rfl) (hw.r wr_2_0) ?_
  refine r_cv (bs := []) (st' := []) ((hp 4).trans rfl) (hw.o (i := 3) (by decide) rfl) rfl rfl (Nat.le_of_ble_eq_true rfl) (Nat.le_of_ble_eq_true rfl) (am_R.post H (fun v g1 hq => ?_))
  obtain ⟨r2, rfl, hw, H⟩ := hq
  change am_R _ _ _ _ _ [.inl r2] _ _
  refine r_if ((hp 7).trans rfl) (fun c29 => ?_) (fun c29 => ?_)
  · have H := H.1 c29
    refine am_R.next ((hp 11).trans rfl) rfl ?_
    refine r_cv (bs := []) (st' := []) ((hp 12).trans rfl) (hw.o (i := 2) (by decide) rfl) rfl rfl (Nat.le_of_ble_eq_true rfl) (Nat.le_of_ble_eq_true rfl) (am_R.post H (fun v g3 hq => ?_))
    obtain ⟨r4, rfl, hw, H⟩ := hq
    change am_R _ _ _ _ _ [.inl r4] _ _
    refine am_R.next (lv' := [some (.inr (.inr ((2 : Nat) : Int))), some (.inl x1), some (.inl r4)]) ((hp 15).trans rfl) rfl ?_
    refine am_R.next ((hp 16).trans rfl) rfl ?_
    refine r_if ((hp 17).trans rfl) (fun c28 => ?_) (fun c28 => ?_)
    · have H := H.1 c28
      refine am_R.next ((hp 35).trans rfl) rfl ?_
      refine r_getR ((hp 36).trans rfl) (hw.o (i := 2) (by decide) rfl) (hw.r wr_2_0) ?_
      refine r_cv (bs := []) (st' := []) ((hp 39).trans rfl) (hw.o (i := 3) (by decide) rfl) rfl rfl (Nat.le_of_ble_eq_true rfl) (Nat.le_of_ble_eq_true rfl) (am_R.post H (fun v g5 hq => ?_))
      obtain ⟨r6, rfl, hw, H⟩ := hq
      change am_R _ _ _ _ _ [.inl r6] _ _
      refine r_if ((hp 42).trans rfl) (fun c25 => ?_) (fun c25 => ?_)
      · have H := H.1 c25
        refine am_R.next ((hp 66).trans rfl) rfl ?_
        refine r_getR ((hp 67).trans rfl) (hw.o (i := 2) (by decide) rfl) (hw.r wr_2_0) ?_
        refine am_R.next ((hp 70).trans rfl) rfl ?_
        refine r_cv (bs := [.inr (.inr (-21))]) (st' := []) ((hp 72).trans rfl) (hw.o (i := 3) (by decide) rfl) rfl rfl (Nat.le_of_ble_eq_true rfl) (Nat.le_of_ble_eq_true rfl) (am_R.post H (fun v g7 hq => ?_))
        obtain ⟨r8, rfl, hw, H⟩ := hq
        change am_R _ _ _ _ _ [.inl r8] _ _
        refine r_if ((hp 75).trans rfl) (fun c22 => ?_) (fun c22 => ?_)
        · have H := H.1 c22
          refine am_R.next ((hp 105).trans rfl) rfl ?_
          refine r_getR ((hp 106).trans rfl) (hw.o (i := 2) (by decide) rfl) (hw.r wr_2_0) ?_
          refine am_R.next ((hp 109).trans rfl) rfl ?_
          refine r_cv (bs := [.inr (.inr (-23))]) (st' := []) ((hp 111).trans rfl) (hw.o (i := 3) (by decide) rfl) rfl rfl (Nat.le_of_ble_eq_true rfl) (Nat.le_of_ble_eq_true rfl) (am_R.post H (fun v g9 hq => ?_))
          obtain ⟨r10, rfl, hw, H⟩ := hq
          change am_R _ _ _ _ _ [.inl r10] _ _
          refine r_if ((hp 114).trans rfl) (fun c16 => ?_) (fun c16 => ?_)
          · have H := H.1 c16
            refine am_R.next ((hp 135).trans rfl) rfl ?_
            refine r_getR ((hp 136).trans rfl) (hw.o (i := 2) (by decide) rfl) (hw.r wr_2_0) ?_
            refine am_R.next ((hp 139).trans rfl) rfl ?_
            refine r_cv (bs := [.inl 2]) (st' := []) ((hp 140).trans rfl) (hw.o (i := 3) (by decide) rfl) rfl rfl (Nat.le_of_ble_eq_true rfl) (Nat.le_of_ble_eq_true rfl) (am_R.post H (fun v g11 hq => ?_))
            obtain ⟨rfl, hw, H⟩ := hq
            change am_R _ _ _ _ _ [] _ _
            exact am_R.ret ((hp 143).trans rfl) rfl H
          · have H := H.2 c16
            refine am_R.next ((hp 117).trans rfl) rfl ?_
            refine am_R.next ((hp 118).trans rfl) rfl ?_
            refine r_cv (bs := [.inl x1]) (st' := []) ((hp 119).trans rfl) (hw.o (i := 2) (by decide) rfl) rfl rfl (Nat.le_of_ble_eq_true rfl) (Nat.le_of_ble_eq_true rfl) (am_R.post H (fun v g12 hq => ?_))
            obtain ⟨r13, rfl, hw, H⟩ := hq
            change am_R _ _ _ _ _ [.inl r13] _ _
            refine r_if ((hp 122).trans rfl) (fun c15 => ?_) (fun c15 => ?_)
            · have H := H.1 c15
              exact am_R.ret ((hp 143).trans rfl) rfl H
            · have H := H.2 c15
              refine am_R.next ((hp 125).trans rfl) rfl ?_
              refine am_R.next ((hp 126).trans rfl) rfl ?_
              refine am_R.next ((hp 127).trans rfl) rfl ?_
              refine am_R.next ((hp 128).trans rfl) rfl ?_
              refine r_cv (bs := [.inl (am_w (x1 + 1))]) (st' := []) ((hp 129).trans rfl) (hw.o (i := 2) (by decide) rfl) rfl rfl (Nat.le_of_ble_eq_true rfl) (Nat.le_of_ble_eq_true rfl) (am_R.post H (fun v g14 hq => ?_))
              obtain ⟨rfl, hw, H⟩ := hq
              change am_R _ _ _ _ _ [] _ _
              refine am_R.next ((hp 132).trans rfl) rfl ?_
              exact am_R.ret ((hp 143).trans rfl) rfl H
        · have H := H.2 c22
          refine am_R.next ((hp 78).trans rfl) rfl ?_
          refine am_R.next ((hp 79).trans rfl) rfl ?_
          refine r_cv (bs := [.inl x1]) (st' := []) ((hp 80).trans rfl) (hw.o (i := 2) (by decide) rfl) rfl rfl (Nat.le_of_ble_eq_true rfl) (Nat.le_of_ble_eq_true rfl) (am_R.post H (fun v g17 hq => ?_))
          obtain ⟨r18, rfl, hw, H⟩ := hq
          change am_R _ _ _ _ _ [.inl r18] _ _
          refine r_if ((hp 83).trans rfl) (fun c21 => ?_) (fun c21 => ?_)
          · have H := H.1 c21
            exact am_R.ret ((hp 143).trans rfl) rfl H
          · have H := H.2 c21
            refine am_R.next ((hp 86).trans rfl) rfl ?_
            refine am_R.next ((hp 87).trans rfl) rfl ?_
            refine am_R.next ((hp 88).trans rfl) rfl ?_
            refine am_R.next ((hp 89).trans rfl) rfl ?_
            refine r_cv (bs := [.inl (am_w (x1 + 1))]) (st' := []) ((hp 90).trans rfl) (hw.o (i := 2) (by decide) rfl) rfl rfl (Nat.le_of_ble_eq_true rfl) (Nat.le_of_ble_eq_true rfl) (am_R.post H (fun v g19 hq => ?_))
            obtain ⟨rfl, hw, H⟩ := hq
            change am_R _ _ _ _ _ [] _ _
            refine am_R.next ((hp 93).trans rfl) rfl ?_
            refine r_getR ((hp 94).trans rfl) (hw.o (i := 2) (by decide) rfl) (hw.r wr_2_0) ?_
            refine am_R.next ((hp 97).trans rfl) rfl ?_
            refine r_cv (bs := [.inr (.inr (-22))]) (st' := []) ((hp 99).trans rfl) (hw.o (i := 3) (by decide) rfl) rfl rfl (Nat.le_of_ble_eq_true rfl) (Nat.le_of_ble_eq_true rfl) (am_R.post H (fun v g20 hq => ?_))
            obtain ⟨rfl, hw, H⟩ := hq
            change am_R _ _ _ _ _ [] _ _
            refine am_R.next ((hp 102).trans rfl) rfl ?_
            exact am_R.ret ((hp 143).trans rfl) rfl H
      · have H := H.2 c25
        refine am_R.next ((hp 45).trans rfl) rfl ?_
        refine am_R.next ((hp 46).trans rfl) rfl ?_
        refine r_getR ((hp 47).trans rfl) (hw.o (i := 2) (by decide) rfl) (hw.r wr_2_0) ?_
        refine r_getI ((hp 50).trans rfl) (hw.o (i := 3) (by decide) rfl) ?_
        refine r_cv (bs := [.inl (g5.2.2.2 3 5)]) (st' := []) ((hp 53).trans rfl) (hw.o (i := 2) (by decide) rfl) rfl rfl (Nat.le_of_ble_eq_true rfl) (Nat.le_of_ble_eq_true rfl) (am_R.post H (fun v g23 hq => ?_))
        obtain ⟨rfl, hw, H⟩ := hq
        change am_R _ _ _ _ _ [] _ _
        refine am_R.next ((hp 56).trans rfl) rfl ?_
        refine r_getR ((hp 57).trans rfl) (hw.o (i := 2) (by decide) rfl) (hw.r wr_2_0) ?_
        refine r_cv (bs := []) (st' := []) ((hp 60).trans rfl) (hw.o (i := 3) (by decide) rfl) rfl rfl (Nat.le_of_ble_eq_true rfl) (Nat.le_of_ble_eq_true rfl) (am_R.post H (fun v g24 hq => ?_))
        obtain ⟨rfl, hw, H⟩ := hq
        change am_R _ _ _ _ _ [] _ _
        refine am_R.next ((hp 63).trans rfl) rfl ?_
        exact am_R.ret ((hp 143).trans rfl) rfl H
    · have H := H.2 c28
      refine am_R.next ((hp 20).trans rfl) rfl ?_
      refine r_getR ((hp 21).trans rfl) (hw.o (i := 2) (by decide) rfl) (hw.r wr_2_0) ?_
      refine r_cv (bs := []) (st' := []) ((hp 24).trans rfl) (hw.o (i := 3) (by decide) rfl) rfl rfl (Nat.le_of_ble_eq_true rfl) (Nat.le_of_ble_eq_true rfl) (am_R.post H (fun v g26 hq => ?_))
      obtain ⟨rfl, hw, H⟩ := hq
      change am_R _ _ _ _ _ [] _ _
      refine am_R.next ((hp 27).trans rfl) rfl ?_
      refine am_R.next ((hp 28).trans rfl) rfl ?_
      refine r_cv (bs := [.inl r4]) (st' := []) ((hp 29).trans rfl) (hw.o (i := 2) (by decide) rfl) rfl rfl (Nat.le_of_ble_eq_true rfl) (Nat.le_of_ble_eq_true rfl) (am_R.post H (fun v g27 hq => ?_))
      obtain ⟨rfl, hw, H⟩ := hq
      change am_R _ _ _ _ _ [] _ _
      refine am_R.next ((hp 32).trans rfl) rfl ?_
      exact am_R.ret ((hp 143).trans rfl) rfl H
  · have H := H.2 (Decidable.not_not.mp c29)
    exact am_R.ret ((hp 10).trans rfl) rfl H
theorem w_Reader_valueNamed_0 {scr : Nat × (Nat → Int)} {d : Nat} {h : am_H} {Q : Option am_V → am_H → Prop} (hs : am_sc scr) (hw : wf h) (H : am_R (am_prog scr) d f_Tokens_is 0 [some (.inr (.inr ((3 : Nat) : Int))), some (.inr (.inr (-17))), none] [] h (fun v g1 => ∃ r2 : Int, v = some (.inl r2) ∧ wf g1 ∧ ((r2 = 0 → (am_R (am_prog scr) d f_Tokens_is 0 [some (.inr (.inr ((3 : Nat) : Int))), some (.inr (.inr (-18))), none] [] g1 (fun v g3 => ∃ r4 : Int, v = some (.inl r4) ∧ wf g3 ∧ ((r4 = 0 → (am_R (am_prog scr) d f_Tokens_is 0 [some (.inr (.inr ((3 : Nat) : Int))), some (.inr (.inr (-12))), none] [] g3 (fun v g5 => ∃ r6 : Int, v = some (.inl r6) ∧ wf g5 ∧ ((r6 = 0 → (am_R (am_prog scr) d f_Tokens_is 0 [some (.inr (.inr ((3 : Nat) : Int))), some (.inr (.inr (-19))), none] [] g5 (fun v g7 => ∃ r8 : Int, v = some (.inl r8) ∧ wf g7 ∧ ((r8 = 0 → (am_R (am_prog scr) d f_Tokens_is 0 [some (.inr (.inr ((3 : Nat) : Int))), some (.inr (.inr (-20))), none] [] g7 (fun v g9 => ∃ r10 : Int, v = some (.inl r10) ∧ wf g9 ∧ ((r10 = 0 → (am_R (am_prog scr) d f_Tokens_is 0 [some (.inr (.inr ((3 : Nat) : Int))), some (.inr (.inr (-10))), none] [] g9 (fun v g11 => ∃ r12 : Int, v = some (.inl r12) ∧ wf g11 ∧ ((r12 = 0 → (am_R (am_prog scr) d f_Tokens_is 0 [some (.inr (.inr ((3 : Nat) : Int))), some (.inr (.inr (-14))), none] [] g11 (fun v g13 => ∃ r14 : Int, v = some (.inl r14) ∧ wf g13 ∧ ((r14 = 0 → (Q (some (.inl 0)) g13)) ∧ (¬ (r14 = 0) → (Q (some (.inl (-7))) g13)))))) ∧ (¬ (r12 = 0) → (Q (some (.inl (-6))) g11)))))) ∧ (¬ (r10 = 0) → (Q (some (.inl (-5))) g9)))))) ∧ (¬ (r8 = 0) → (Q (some (.inl (-4))) g7)))))) ∧ (¬ (r6 = 0) → (Q (some (.inl (-3))) g5)))))) ∧ (¬ (r4 = 0) → (Q (some (.inl (-2))) g3)))))) ∧ (¬ (r2 = 0) → (Q (some (.inl (-1))) g1))))) : am_R (am_prog scr) (d + 1) f_Reader_valueNamed 0 [some (.inr (.inr ((2 : Nat) : Int)))] [] h Q := by
  have hp : ∀ k, (am_prog scr).1 f_Reader_valueNamed k = c_Reader_valueNamed k := fun _ => rfl
  refine am_R.next ((hp 0).trans rfl) rfl ?_
  refine r_getR ((hp 1).trans rfl) (hw.o (i := 2) (by decide) rfl) (hw.r wr_2_0) ?_
  refine am_R.next ((hp 4).trans rfl) rfl ?_
  refine r_cv (bs := [.inr (.inr (-17))]) (st' := []) ((hp 6).trans rfl) (hw.o (i := 3) (by decide) rfl) rfl rfl (Nat.le_of_ble_eq_true rfl) (Nat.le_of_ble_eq_true rfl) (am_R.post H (fun v g1 hq => ?_))
  obtain ⟨r2, rfl, hw, H⟩ := hq
  change am_R _ _ _ _ _ [.inl r2] _ _
  refine r_if ((hp 9).trans rfl) (fun c21 => ?_) (fun c21 => ?_)
  · have H := H.1 c21
    refine am_R.next ((hp 14).trans rfl) rfl ?_
    refine r_getR ((hp 15).trans rfl) (hw.o (i := 2) (by decide) rfl) (hw.r wr_2_0) ?_
    refine am_R.next ((hp 18).trans rfl) rfl ?_
    refine r_cv (bs := [.inr (.inr (-18))]) (st' := []) ((hp 20).trans rfl) (hw.o (i := 3) (by decide) rfl) rfl rfl (Nat.le_of_ble_eq_true rfl) (Nat.le_of_ble_eq_true rfl) (am_R.post H (fun v g3 hq => ?_))
    obtain ⟨r4, rfl, hw, H⟩ := hq
    change am_R _ _ _ _ _ [.inl r4] _ _
    refine r_if ((hp 23).trans rfl) (fun c20 => ?_) (fun c20 => ?_)
    · have H := H.1 c20
      refine am_R.next ((hp 29).trans rfl) rfl ?_
      refine r_getR ((hp 30).trans rfl) (hw.o (i := 2) (by decide) rfl) (hw.r wr_2_0) ?_
      refine am_R.next ((hp 33).trans rfl) rfl ?_
      refine r_cv (bs := [.inr (.inr (-12))]) (st' := []) ((hp 35).trans rfl) (hw.o (i := 3) (by decide) rfl) rfl rfl (Nat.le_of_ble_eq_true rfl) (Nat.le_of_ble_eq_true rfl) (am_R.post H (fun v g5 hq => ?_))
      obtain ⟨r6, rfl, hw, H⟩ := hq
      change am_R _ _ _ _ _ [.inl r6] _ _
      refine r_if ((hp 38).trans rfl) (fun c19 => ?_) (fun c19 => ?_)
      · have H := H.1 c19
        refine am_R.next ((hp 44).trans rfl) rfl ?_
        refine r_getR ((hp 45).trans rfl) (hw.o (i := 2) (by decide) rfl) (hw.r wr_2_0) ?_
        refine am_R.next ((hp 48).trans rfl) rfl ?_
        refine r_cv (bs := [.inr (.inr (-19))]) (st' := []) ((hp 50).trans rfl) (hw.o (i := 3) (by decide) rfl) rfl rfl (Nat.le_of_ble_eq_true rfl) (Nat.le_of_ble_eq_true rfl) (am_R.post H (fun v g7 hq => ?_))
        obtain ⟨r8, rfl, hw, H⟩ := hq
        change am_R _ _ _ _ _ [.inl r8] _ _
        refine r_if ((hp 53).trans rfl) (fun c18 => ?_) (fun c18 => ?_)
        · have H := H.1 c18
          refine am_R.next ((hp 59).trans rfl) rfl ?_
          refine r_getR ((hp 60).trans rfl) (hw.o (i := 2) (by decide) rfl) (hw.r wr_2_0) ?_
          refine am_R.next ((hp 63).trans rfl) rfl ?_
          refine r_cv (bs := [.inr (.inr (-20))]) (st' := []) ((hp 65).trans rfl) (hw.o (i := 3) (by decide) rfl) rfl rfl (Nat.le_of_ble_eq_true rfl) (Nat.le_of_ble_eq_true rfl) (am_R.post H (fun v g9 hq => ?_))
          obtain ⟨r10, rfl, hw, H⟩ := hq
          change am_R _ _ _ _ _ [.inl r10] _ _
          refine r_if ((hp 68).trans rfl) (fun c17 => ?_) (fun c17 => ?_)
          · have H := H.1 c17
            refine am_R.next ((hp 74).trans rfl) rfl ?_
            refine r_getR ((hp 75).trans rfl) (hw.o (i := 2) (by decide) rfl) (hw.r wr_2_0) ?_
            refine am_R.next ((hp 78).trans rfl) rfl ?_
            refine r_cv (bs := [.inr (.inr (-10))]) (st' := []) ((hp 80).trans rfl) (hw.o (i := 3) (by decide) rfl) rfl rfl (Nat.le_of_ble_eq_true rfl) (Nat.le_of_ble_eq_true rfl) (am_R.post H (fun v g11 hq => ?_))
            obtain ⟨r12, rfl, hw, H⟩ := hq
            change am_R _ _ _ _ _ [.inl r12] _ _
            refine r_if ((hp 83).trans rfl) (fun c16 => ?_) (fun c16 => ?_)
            · have H := H.1 c16
              refine am_R.next ((hp 89).trans rfl) rfl ?_
              refine r_getR ((hp 90).trans rfl) (hw.o (i := 2) (by decide) rfl) (hw.r wr_2_0) ?_
              refine am_R.next ((hp 93).trans rfl) rfl ?_
              refine r_cv (bs := [.inr (.inr (-14))]) (st' := []) ((hp 95).trans rfl) (hw.o (i := 3) (by decide) rfl) rfl rfl (Nat.le_of_ble_eq_true rfl) (Nat.le_of_ble_eq_true rfl) (am_R.post H (fun v g13 hq => ?_))
              obtain ⟨r14, rfl, hw, H⟩ := hq
              change am_R _ _ _ _ _ [.inl r14] _ _
              refine r_if ((hp 98).trans rfl) (fun c15 => ?_) (fun c15 => ?_)
              · have H := H.1 c15
                refine am_R.next ((hp 106).trans rfl) rfl ?_
                exact am_R.ret ((hp 107).trans rfl) rfl H
              · have H := H.2 c15
                refine am_R.next ((hp 101).trans rfl) rfl ?_
                refine am_R.next ((hp 103).trans rfl) rfl ?_
                exact am_R.ret ((hp 107).trans rfl) rfl H
            · have H := H.2 c16
              refine am_R.next ((hp 86).trans rfl) rfl ?_
              exact am_R.ret ((hp 88).trans rfl) rfl H
          · have H := H.2 c17
            refine am_R.next ((hp 71).trans rfl) rfl ?_
            exact am_R.ret ((hp 73).trans rfl) rfl H
        · have H := H.2 c18
          refine am_R.next ((hp 56).trans rfl) rfl ?_
          exact am_R.ret ((hp 58).trans rfl) rfl H
      · have H := H.2 c19
        refine am_R.next ((hp 41).trans rfl) rfl ?_
        exact am_R.ret ((hp 43).trans rfl) rfl H
    · have H := H.2 c20
      refine am_R.next ((hp 26).trans rfl) rfl ?_
      exact am_R.ret ((hp 28).trans rfl) rfl H
  · have H := H.2 c21
    refine am_R.next ((hp 12).trans rfl) rfl ?_
    exact am_R.ret ((hp 13).trans rfl) rfl H
theorem w_Reader_goWithin_0 {scr : Nat × (Nat → Int)} {d : Nat} {h : am_H} {Q : Option am_V → am_H → Prop} {x1 : Int} (hs : am_sc scr) (hw : wf h) (H : (x1 < 6 → (am_R (am_prog scr) d f_Tokens_advance 0 [some (.inr (.inr ((3 : Nat) : Int))), none] [] h (fun v g1 => v = none ∧ wf g1 ∧ (Q (some (.inl 1)) g1)))) ∧ (¬ (x1 < 6) → (am_R (am_prog scr) d f_Tokens_refuse 0 [some (.inr (.inr ((3 : Nat) : Int))), some (.inl 4)] [] h (fun v g2 => v = none ∧ wf g2 ∧ (Q (some (.inl 0)) g2))))) : am_R (am_prog scr) (d + 1) f_Reader_goWithin 0 [some (.inr (.inr ((2 : Nat) : Int))), some (.inl x1)] [] h Q := by
  have hp : ∀ k, (am_prog scr).1 f_Reader_goWithin k = c_Reader_goWithin k := fun _ => rfl
  refine am_R.next ((hp 0).trans rfl) rfl ?_
  refine am_R.next ((hp 1).trans rfl) rfl ?_
  refine r_ic ((hp 3).trans rfl) (fun c3 => ?_) (fun c3 => ?_)
  · have H := H.1 c3
    refine am_R.next ((hp 16).trans rfl) rfl ?_
    refine r_getR ((hp 17).trans rfl) (hw.o (i := 2) (by decide) rfl) (hw.r wr_2_0) ?_
    refine r_cv (bs := []) (st' := []) ((hp 20).trans rfl) (hw.o (i := 3) (by decide) rfl) rfl rfl (Nat.le_of_ble_eq_true rfl) (Nat.le_of_ble_eq_true rfl) (am_R.post H (fun v g1 hq => ?_))
    obtain ⟨rfl, hw, H⟩ := hq
    change am_R _ _ _ _ _ [] _ _
    refine am_R.next ((hp 23).trans rfl) rfl ?_
    exact r_zret ((hp 24).trans rfl) (Or.inr rfl) H
  · have H := H.2 c3
    refine am_R.next ((hp 6).trans rfl) rfl ?_
    refine r_getR ((hp 7).trans rfl) (hw.o (i := 2) (by decide) rfl) (hw.r wr_2_0) ?_
    refine am_R.next ((hp 10).trans rfl) rfl ?_
    refine r_cv (bs := [.inl 4]) (st' := []) ((hp 11).trans rfl) (hw.o (i := 3) (by decide) rfl) rfl rfl (Nat.le_of_ble_eq_true rfl) (Nat.le_of_ble_eq_true rfl) (am_R.post H (fun v g2 hq => ?_))
    obtain ⟨rfl, hw, H⟩ := hq
    change am_R _ _ _ _ _ [] _ _
    refine am_R.next ((hp 14).trans rfl) rfl ?_
    exact r_zret ((hp 15).trans rfl) (Or.inl rfl) H
theorem w_Reader_readChoice_0 {scr : Nat × (Nat → Int)} {d : Nat} {h : am_H} {Q : Option am_V → am_H → Prop} {x1 : Int} (hs : am_sc scr) (hw : wf h) (H : am_R (am_prog scr) d f_Reader_readTruth 0 [some (.inr (.inr ((2 : Nat) : Int))), some (.inl x1), none] [] h (fun v g1 => v = none ∧ wf g1 ∧ (am_R (am_prog scr) d f_Tokens_want 0 [some (.inr (.inr ((3 : Nat) : Int))), some (.inr (.inr (-32)))] [] g1 (fun v g2 => v = none ∧ wf g2 ∧ (am_R (am_prog scr) d f_Reader_append 0 [some (.inr (.inr ((2 : Nat) : Int))), some (.inl (-18))] [] g2 (fun v g3 => v = none ∧ wf g3 ∧ (∀ y4 : Int, y4 = g3.2.2.2 2 2 → (am_R (am_prog scr) d f_Reader_append 0 [some (.inr (.inr ((2 : Nat) : Int))), some (.inl 0)] [] g3 (fun v g5 => v = none ∧ wf g5 ∧ (am_R (am_prog scr) d f_Reader_readSum 0 [some (.inr (.inr ((2 : Nat) : Int))), some (.inl x1), none, none, none, none] [] g5 (fun v g6 => v = none ∧ wf g6 ∧ (am_R (am_prog scr) d f_Tokens_want 0 [some (.inr (.inr ((3 : Nat) : Int))), some (.inr (.inr (-33)))] [] g6 (fun v g7 => v = none ∧ wf g7 ∧ (am_R (am_prog scr) d f_Reader_append 0 [some (.inr (.inr ((2 : Nat) : Int))), some (.inl (-17))] [] g7 (fun v g8 => v = none ∧ wf g8 ∧ (∀ y9 : Int, y9 = g8.2.2.2 2 2 → (am_R (am_prog scr) d f_Reader_append 0 [some (.inr (.inr ((2 : Nat) : Int))), some (.inl 0)] [] g8 (fun v g10 => v = none ∧ wf g10 ∧ (am_R (am_prog scr) d f_Reader_aim 0 [some (.inr (.inr ((2 : Nat) : Int))), some (.inl y4)] [] g10 (fun v g11 => v = none ∧ wf g11 ∧ (am_R (am_prog scr) d f_Reader_readSum 0 [some (.inr (.inr ((2 : Nat) : Int))), some (.inl x1), none, none, none, none] [] g11 (fun v g12 => v = none ∧ wf g12 ∧ (am_R (am_prog scr) d f_Tokens_want 0 [some (.inr (.inr ((3 : Nat) : Int))), some (.inr (.inr (-34)))] [] g12 (fun v g13 => v = none ∧ wf g13 ∧ (am_R (am_prog scr) d f_Reader_aim 0 [some (.inr (.inr ((2 : Nat) : Int))), some (.inl y9)] [] g13 (fun v g14 => v = none ∧ wf g14 ∧ (Q none g14))))))))))))))))))))))))))) : am_R (am_prog scr) (d + 1) f_Reader_readChoice 0 [some (.inr (.inr ((2 : Nat) : Int))), some (.inl x1), none, none] [] h Q := by
  have hp : ∀ k, (am_prog scr).1 f_Reader_readChoice k = c_Reader_readChoice k := fun _ => rfl
  refine am_R.next ((hp 0).trans rfl) rfl ?_
  refine am_R.next ((hp 1).trans rfl) rfl ?_
  refine r_cv (bs := [.inl x1]) (st' := []) ((hp 2).trans rfl) (hw.o (i := 2) (by decide) rfl) rfl rfl (Nat.le_of_ble_eq_true rfl) (Nat.le_of_ble_eq_true rfl) (am_R.post H (fun v g1 hq => ?_))
  obtain ⟨rfl, hw, H⟩ := hq
  change am_R _ _ _ _ _ [] _ _
  refine am_R.next ((hp 5).trans rfl) rfl ?_
  refine r_getR ((hp 6).trans rfl) (hw.o (i := 2) (by decide) rfl) (hw.r wr_2_0) ?_
  refine am_R.next ((hp 9).trans rfl) rfl ?_
  refine r_cv (bs := [.inr (.inr (-32))]) (st' := []) ((hp 11).trans rfl) (hw.o (i := 3) (by decide) rfl) rfl rfl (Nat.le_of_ble_eq_true rfl) (Nat.le_of_ble_eq_true rfl) (am_R.post H (fun v g2 hq => ?_))
  obtain ⟨rfl, hw, H⟩ := hq
  change am_R _ _ _ _ _ [] _ _
  refine am_R.next ((hp 14).trans rfl) rfl ?_
  refine am_R.next ((hp 15).trans rfl) rfl ?_
  refine r_cv (bs := [.inl (-18)]) (st' := []) ((hp 17).trans rfl) (hw.o (i := 2) (by decide) rfl) rfl rfl (Nat.le_of_ble_eq_true rfl) (Nat.le_of_ble_eq_true rfl) (am_R.post H (fun v g3 hq => ?_))
  obtain ⟨rfl, hw, H⟩ := hq
  change am_R _ _ _ _ _ [] _ _
  refine am_R.next ((hp 20).trans rfl) rfl ?_
  refine r_getI ((hp 21).trans rfl) (hw.o (i := 2) (by decide) rfl) ?_
  obtain ⟨y4, ey4⟩ : ∃ z : Int, z = g3.2.2.2 2 2 := ⟨_, rfl⟩
  have H := H y4 ey4
  refine am_R.next (lv' := [some (.inr (.inr ((2 : Nat) : Int))), some (.inl x1), some (.inl y4), none]) (st' := []) (h' := g3) (pc' := 25) ((hp 24).trans rfl) (by rw [ey4]; rfl) ?_
  refine am_R.next ((hp 25).trans rfl) rfl ?_
  refine am_R.next ((hp 26).trans rfl) rfl ?_
  refine r_cv (bs := [.inl 0]) (st' := []) ((hp 27).trans rfl) (hw.o (i := 2) (by decide) rfl) rfl rfl (Nat.le_of_ble_eq_true rfl) (Nat.le_of_ble_eq_true rfl) (am_R.post H (fun v g5 hq => ?_))
  obtain ⟨rfl, hw, H⟩ := hq
  change am_R _ _ _ _ _ [] _ _
  refine am_R.next ((hp 30).trans rfl) rfl ?_
  refine am_R.next ((hp 31).trans rfl) rfl ?_
  refine r_cv (bs := [.inl x1]) (st' := []) ((hp 32).trans rfl) (hw.o (i := 2) (by decide) rfl) rfl rfl (Nat.le_of_ble_eq_true rfl) (Nat.le_of_ble_eq_true rfl) (am_R.post H (fun v g6 hq => ?_))
  obtain ⟨rfl, hw, H⟩ := hq
  change am_R _ _ _ _ _ [] _ _
  refine am_R.next ((hp 35).trans rfl) rfl ?_
  refine r_getR ((hp 36).trans rfl) (hw.o (i := 2) (by decide) rfl) (hw.r wr_2_0) ?_
  refine am_R.next ((hp 39).trans rfl) rfl ?_
  refine r_cv (bs := [.inr (.inr (-33))]) (st' := []) ((hp 41).trans rfl) (hw.o (i := 3) (by decide) rfl) rfl rfl (Nat.le_of_ble_eq_true rfl) (Nat.le_of_ble_eq_true rfl) (am_R.post H (fun v g7 hq => ?_))
  obtain ⟨rfl, hw, H⟩ := hq
  change am_R _ _ _ _ _ [] _ _
  refine am_R.next ((hp 44).trans rfl) rfl ?_
  refine am_R.next ((hp 45).trans rfl) rfl ?_
  refine r_cv (bs := [.inl (-17)]) (st' := []) ((hp 47).trans rfl) (hw.o (i := 2) (by decide) rfl) rfl rfl (Nat.le_of_ble_eq_true rfl) (Nat.le_of_ble_eq_true rfl) (am_R.post H (fun v g8 hq => ?_))
  obtain ⟨rfl, hw, H⟩ := hq
  change am_R _ _ _ _ _ [] _ _
  refine am_R.next ((hp 50).trans rfl) rfl ?_
  refine r_getI ((hp 51).trans rfl) (hw.o (i := 2) (by decide) rfl) ?_
  obtain ⟨y9, ey9⟩ : ∃ z : Int, z = g8.2.2.2 2 2 := ⟨_, rfl⟩
  have H := H y9 ey9
  refine am_R.next (lv' := [some (.inr (.inr ((2 : Nat) : Int))), some (.inl x1), some (.inl y4), some (.inl y9)]) (st' := []) (h' := g8) (pc' := 55) ((hp 54).trans rfl) (by rw [ey9]; rfl) ?_
  refine am_R.next ((hp 55).trans rfl) rfl ?_
  refine am_R.next ((hp 56).trans rfl) rfl ?_
  refine r_cv (bs := [.inl 0]) (st' := []) ((hp 57).trans rfl) (hw.o (i := 2) (by decide) rfl) rfl rfl (Nat.le_of_ble_eq_true rfl) (Nat.le_of_ble_eq_true rfl) (am_R.post H (fun v g10 hq => ?_))
  obtain ⟨rfl, hw, H⟩ := hq
  change am_R _ _ _ _ _ [] _ _
  refine am_R.next ((hp 60).trans rfl) rfl ?_
  refine am_R.next ((hp 61).trans rfl) rfl ?_
  refine r_cv (bs := [.inl y4]) (st' := []) ((hp 62).trans rfl) (hw.o (i := 2) (by decide) rfl) rfl rfl (Nat.le_of_ble_eq_true rfl) (Nat.le_of_ble_eq_true rfl) (am_R.post H (fun v g11 hq => ?_))
  obtain ⟨rfl, hw, H⟩ := hq
  change am_R _ _ _ _ _ [] _ _
  refine am_R.next ((hp 65).trans rfl) rfl ?_
  refine am_R.next ((hp 66).trans rfl) rfl ?_
  refine r_cv (bs := [.inl x1]) (st' := []) ((hp 67).trans rfl) (hw.o (i := 2) (by decide) rfl) rfl rfl (Nat.le_of_ble_eq_true rfl) (Nat.le_of_ble_eq_true rfl) (am_R.post H (fun v g12 hq => ?_))
  obtain ⟨rfl, hw, H⟩ := hq
  change am_R _ _ _ _ _ [] _ _
  refine am_R.next ((hp 70).trans rfl) rfl ?_
  refine r_getR ((hp 71).trans rfl) (hw.o (i := 2) (by decide) rfl) (hw.r wr_2_0) ?_
  refine am_R.next ((hp 74).trans rfl) rfl ?_
  refine r_cv (bs := [.inr (.inr (-34))]) (st' := []) ((hp 76).trans rfl) (hw.o (i := 3) (by decide) rfl) rfl rfl (Nat.le_of_ble_eq_true rfl) (Nat.le_of_ble_eq_true rfl) (am_R.post H (fun v g13 hq => ?_))
  obtain ⟨rfl, hw, H⟩ := hq
  change am_R _ _ _ _ _ [] _ _
  refine am_R.next ((hp 79).trans rfl) rfl ?_
  refine am_R.next ((hp 80).trans rfl) rfl ?_
  refine r_cv (bs := [.inl y9]) (st' := []) ((hp 81).trans rfl) (hw.o (i := 2) (by decide) rfl) rfl rfl (Nat.le_of_ble_eq_true rfl) (Nat.le_of_ble_eq_true rfl) (am_R.post H (fun v g14 hq => ?_))
  obtain ⟨rfl, hw, H⟩ := hq
  change am_R _ _ _ _ _ [] _ _
  exact am_R.ret ((hp 84).trans rfl) rfl H
theorem w_Reader_readTruth_0 {scr : Nat × (Nat → Int)} {d : Nat} {h : am_H} {Q : Option am_V → am_H → Prop} {x1 : Int} (hs : am_sc scr) (hw : wf h) (H : am_R (am_prog scr) d f_Reader_readBoth 0 [some (.inr (.inr ((2 : Nat) : Int))), some (.inl x1), none] [] h (fun v g1 => v = none ∧ wf g1 ∧ (am_R (am_prog scr) (d + 1) f_Reader_readTruth 7 [some (.inr (.inr ((2 : Nat) : Int))), some (.inl x1), some (.inl 0)] [] g1 Q))) : am_R (am_prog scr) (d + 1) f_Reader_readTruth 0 [some (.inr (.inr ((2 : Nat) : Int))), some (.inl x1), none] [] h Q := by
  have hp : ∀ k, (am_prog scr).1 f_Reader_readTruth k = c_Reader_readTruth k := fun _ => rfl
  refine am_R.next ((hp 0).trans rfl) rfl ?_
  refine am_R.next ((hp 1).trans rfl) rfl ?_
  refine r_cv (bs := [.inl x1]) (st' := []) ((hp 2).trans rfl) (hw.o (i := 2) (by decide) rfl) rfl rfl (Nat.le_of_ble_eq_true rfl) (Nat.le_of_ble_eq_true rfl) (am_R.post H (fun v g1 hq => ?_))
  obtain ⟨rfl, hw, H⟩ := hq
  change am_R _ _ _ _ _ [] _ _
  refine am_R.next ((hp 5).trans rfl) rfl ?_
  refine am_R.next (lv' := [some (.inr (.inr ((2 : Nat) : Int))), some (.inl x1), some (.inl 0)]) ((hp 6).trans rfl) rfl ?_
  exact H
theorem w_Reader_readTruth_7 {scr : Nat × (Nat → Int)} {d : Nat} {h : am_H} {Q : Option am_V → am_H → Prop} {x1 x2 : Int} (hs : am_sc scr) (hw : wf h) (H : (¬ (x2 < 900) → (Q none h)) ∧ (x2 < 900 → (am_R (am_prog scr) d f_Tokens_isFaultless 0 [some (.inr (.inr ((3 : Nat) : Int)))] [] h (fun v g1 => ∃ r2 : Int, v = some (.inl r2) ∧ wf g1 ∧ ((r2 = 0 → (Q none g1)) ∧ (¬ (r2 = 0) → (am_R (am_prog scr) d f_Tokens_is 0 [some (.inr (.inr ((3 : Nat) : Int))), some (.inr (.inr (-31))), none] [] g1 (fun v g3 => ∃ r4 : Int, v = some (.inl r4) ∧ wf g3 ∧ ((r4 = 0 → (Q none g3)) ∧ (¬ (r4 = 0) → (am_R (am_prog scr) d f_Tokens_advance 0 [some (.inr (.inr ((3 : Nat) : Int))), none] [] g3 (fun v g5 => v = none ∧ wf g5 ∧ (am_R (am_prog scr) d f_Reader_readBoth 0 [some (.inr (.inr ((2 : Nat) : Int))), some (.inl x1), none] [] g5 (fun v g6 => v = none ∧ wf g6 ∧ (am_R (am_prog scr) d f_Reader_append 0 [some (.inr (.inr ((2 : Nat) : Int))), some (.inl (-16))] [] g6 (fun v g7 => v = none ∧ wf g7 ∧ (∀ y8 : Int, y8 = am_w (x2 + 1) → (am_R (am_prog scr) (d + 1) f_Reader_readTruth 7 [some (.inr (.inr ((2 : Nat) : Int))), some (.inl x1), some (.inl y8)] [] g7 Q)))))))))))))))))) : am_R (am_prog scr) (d + 1) f_Reader_readTruth 7 [some (.inr (.inr ((2 : Nat) : Int))), some (.inl x1), some (.inl x2)] [] h Q := by
  have hp : ∀ k, (am_prog scr).1 f_Reader_readTruth k = c_Reader_readTruth k := fun _ => rfl
  refine am_R.next ((hp 7).trans rfl) rfl ?_
  refine am_R.next ((hp 8).trans rfl) rfl ?_
  refine r_ic ((hp 11).trans rfl) (fun c11 => ?_) (fun c11 => ?_)
  · have H := H.1 c11
    exact am_R.ret ((hp 60).trans rfl) rfl H
  · have H := H.2 (Decidable.not_not.mp c11)
    refine am_R.next ((hp 14).trans rfl) rfl ?_
    refine r_getR ((hp 15).trans rfl) (hw.o (i := 2) (by decide) rfl) (hw.r wr_2_0) ?_
    refine r_cv (bs := []) (st' := []) ((hp 18).trans rfl) (hw.o (i := 3) (by decide) rfl) rfl rfl (Nat.le_of_ble_eq_true rfl) (Nat.le_of_ble_eq_true rfl) (am_R.post H (fun v g1 hq => ?_))
    obtain ⟨r2, rfl, hw, H⟩ := hq
    change am_R _ _ _ _ _ [.inl r2] _ _
    refine r_if ((hp 21).trans rfl) (fun c10 => ?_) (fun c10 => ?_)
    · have H := H.1 c10
      exact am_R.ret ((hp 60).trans rfl) rfl H
    · have H := H.2 c10
      refine am_R.next ((hp 24).trans rfl) rfl ?_
      refine r_getR ((hp 25).trans rfl) (hw.o (i := 2) (by decide) rfl) (hw.r wr_2_0) ?_
      refine am_R.next ((hp 28).trans rfl) rfl ?_
      refine r_cv (bs := [.inr (.inr (-31))]) (st' := []) ((hp 30).trans rfl) (hw.o (i := 3) (by decide) rfl) rfl rfl (Nat.le_of_ble_eq_true rfl) (Nat.le_of_ble_eq_true rfl) (am_R.post H (fun v g3 hq => ?_))
      obtain ⟨r4, rfl, hw, H⟩ := hq
      change am_R _ _ _ _ _ [.inl r4] _ _
      refine r_if ((hp 33).trans rfl) (fun c9 => ?_) (fun c9 => ?_)
      · have H := H.1 c9
        exact am_R.ret ((hp 60).trans rfl) rfl H
      · have H := H.2 c9
        refine am_R.next ((hp 36).trans rfl) rfl ?_
        refine r_getR ((hp 37).trans rfl) (hw.o (i := 2) (by decide) rfl) (hw.r wr_2_0) ?_
        refine r_cv (bs := []) (st' := []) ((hp 40).trans rfl) (hw.o (i := 3) (by decide) rfl) rfl rfl (Nat.le_of_ble_eq_true rfl) (Nat.le_of_ble_eq_true rfl) (am_R.post H (fun v g5 hq => ?_))
        obtain ⟨rfl, hw, H⟩ := hq
        change am_R _ _ _ _ _ [] _ _
        refine am_R.next ((hp 43).trans rfl) rfl ?_
        refine am_R.next ((hp 44).trans rfl) rfl ?_
        refine r_cv (bs := [.inl x1]) (st' := []) ((hp 45).trans rfl) (hw.o (i := 2) (by decide) rfl) rfl rfl (Nat.le_of_ble_eq_true rfl) (Nat.le_of_ble_eq_true rfl) (am_R.post H (fun v g6 hq => ?_))
        obtain ⟨rfl, hw, H⟩ := hq
        change am_R _ _ _ _ _ [] _ _
        refine am_R.next ((hp 48).trans rfl) rfl ?_
        refine am_R.next ((hp 49).trans rfl) rfl ?_
        refine r_cv (bs := [.inl (-16)]) (st' := []) ((hp 51).trans rfl) (hw.o (i := 2) (by decide) rfl) rfl rfl (Nat.le_of_ble_eq_true rfl) (Nat.le_of_ble_eq_true rfl) (am_R.post H (fun v g7 hq => ?_))
        obtain ⟨rfl, hw, H⟩ := hq
        change am_R _ _ _ _ _ [] _ _
        obtain ⟨y8, ey8⟩ : ∃ z : Int, z = am_w (x2 + 1) := ⟨_, rfl⟩
        have H := H y8 ey8
        refine am_R.next (lv' := [some (.inr (.inr ((2 : Nat) : Int))), some (.inl x1), some (.inl y8)]) (st' := []) (h' := g7) (pc' := 57) ((hp 54).trans rfl) (by rw [ey8]; rfl) ?_
        refine am_R.next ((hp 57).trans rfl) rfl ?_
        exact H
theorem w_Reader_readBoth_0 {scr : Nat × (Nat → Int)} {d : Nat} {h : am_H} {Q : Option am_V → am_H → Prop} {x1 : Int} (hs : am_sc scr) (hw : wf h) (H : am_R (am_prog scr) d f_Reader_readUnit 0 [some (.inr (.inr ((2 : Nat) : Int))), some (.inl x1)] [] h (fun v g1 => v = none ∧ wf g1 ∧ (am_R (am_prog scr) (d + 1) f_Reader_readBoth 7 [some (.inr (.inr ((2 : Nat) : Int))), some (.inl x1), some (.inl 0)] [] g1 Q))) : am_R (am_prog scr) (d + 1) f_Reader_readBoth 0 [some (.inr (.inr ((2 : Nat) : Int))), some (.inl x1), none] [] h Q := by
  have hp : ∀ k, (am_prog scr).1 f_Reader_readBoth k = c_Reader_readBoth k := fun _ => rfl
  refine am_R.next ((hp 0).trans rfl) rfl ?_
  refine am_R.next ((hp 1).trans rfl) rfl ?_
  refine r_cv (bs := [.inl x1]) (st' := []) ((hp 2).trans rfl) (hw.o (i := 2) (by decide) rfl) rfl rfl (Nat.le_of_ble_eq_true rfl) (Nat.le_of_ble_eq_true rfl) (am_R.post H (fun v g1 hq => ?_))
  obtain ⟨rfl, hw, H⟩ := hq
  change am_R _ _ _ _ _ [] _ _
  refine am_R.next ((hp 5).trans rfl) rfl ?_
  refine am_R.next (lv' := [some (.inr (.inr ((2 : Nat) : Int))), some (.inl x1), some (.inl 0)]) ((hp 6).trans rfl) rfl ?_
  exact H
theorem w_Reader_readBoth_7 {scr : Nat × (Nat → Int)} {d : Nat} {h : am_H} {Q : Option am_V → am_H → Prop} {x1 x2 : Int} (hs : am_sc scr) (hw : wf h) (H : (¬ (x2 < 900) → (Q none h)) ∧ (x2 < 900 → (am_R (am_prog scr) d f_Tokens_isFaultless 0 [some (.inr (.inr ((3 : Nat) : Int)))] [] h (fun v g1 => ∃ r2 : Int, v = some (.inl r2) ∧ wf g1 ∧ ((r2 = 0 → (Q none g1)) ∧ (¬ (r2 = 0) → (am_R (am_prog scr) d f_Tokens_is 0 [some (.inr (.inr ((3 : Nat) : Int))), some (.inr (.inr (-30))), none] [] g1 (fun v g3 => ∃ r4 : Int, v = some (.inl r4) ∧ wf g3 ∧ ((r4 = 0 → (Q none g3)) ∧ (¬ (r4 = 0) → (am_R (am_prog scr) d f_Tokens_advance 0 [some (.inr (.inr ((3 : Nat) : Int))), none] [] g3 (fun v g5 => v = none ∧ wf g5 ∧ (am_R (am_prog scr) d f_Reader_readUnit 0 [some (.inr (.inr ((2 : Nat) : Int))), some (.inl x1)] [] g5 (fun v g6 => v = none ∧ wf g6 ∧ (am_R (am_prog scr) d f_Reader_append 0 [some (.inr (.inr ((2 : Nat) : Int))), some (.inl (-15))] [] g6 (fun v g7 => v = none ∧ wf g7 ∧ (∀ y8 : Int, y8 = am_w (x2 + 1) → (am_R (am_prog scr) (d + 1) f_Reader_readBoth 7 [some (.inr (.inr ((2 : Nat) : Int))), some (.inl x1), some (.inl y8)] [] g7 Q)))))))))))))))))) : am_R (am_prog scr) (d + 1) f_Reader_readBoth 7 [some (.inr (.inr ((2 : Nat) : Int))), some (.inl x1), some (.inl x2)] [] h Q := by
  have hp : ∀ k, (am_prog scr).1 f_Reader_readBoth k = c_Reader_readBoth k := fun _ => rfl
  refine am_R.next ((hp 7).trans rfl) rfl ?_
  refine am_R.next ((hp 8).trans rfl) rfl ?_
  refine r_ic ((hp 11).trans rfl) (fun c11 => ?_) (fun c11 => ?_)
  · have H := H.1 c11
    exact am_R.ret ((hp 60).trans rfl) rfl H
  · have H := H.2 (Decidable.not_not.mp c11)
    refine am_R.next ((hp 14).trans rfl) rfl ?_
    refine r_getR ((hp 15).trans rfl) (hw.o (i := 2) (by decide) rfl) (hw.r wr_2_0) ?_
    refine r_cv (bs := []) (st' := []) ((hp 18).trans rfl) (hw.o (i := 3) (by decide) rfl) rfl rfl (Nat.le_of_ble_eq_true rfl) (Nat.le_of_ble_eq_true rfl) (am_R.post H (fun v g1 hq => ?_))
    obtain ⟨r2, rfl, hw, H⟩ := hq
    change am_R _ _ _ _ _ [.inl r2] _ _
    refine r_if ((hp 21).trans rfl) (fun c10 => ?_) (fun c10 => ?_)
    · have H := H.1 c10
      exact am_R.ret ((hp 60).trans rfl) rfl H
    · have H := H.2 c10
      refine am_R.next ((hp 24).trans rfl) rfl ?_
      refine r_getR ((hp 25).trans rfl) (hw.o (i := 2) (by decide) rfl) (hw.r wr_2_0) ?_
      refine am_R.next ((hp 28).trans rfl) rfl ?_
      refine r_cv (bs := [.inr (.inr (-30))]) (st' := []) ((hp 30).trans rfl) (hw.o (i := 3) (by decide) rfl) rfl rfl (Nat.le_of_ble_eq_true rfl) (Nat.le_of_ble_eq_true rfl) (am_R.post H (fun v g3 hq => ?_))
      obtain ⟨r4, rfl, hw, H⟩ := hq
      change am_R _ _ _ _ _ [.inl r4] _ _
      refine r_if ((hp 33).trans rfl) (fun c9 => ?_) (fun c9 => ?_)
      · have H := H.1 c9
        exact am_R.ret ((hp 60).trans rfl) rfl H
      · have H := H.2 c9
        refine am_R.next ((hp 36).trans rfl) rfl ?_
        refine r_getR ((hp 37).trans rfl) (hw.o (i := 2) (by decide) rfl) (hw.r wr_2_0) ?_
        refine r_cv (bs := []) (st' := []) ((hp 40).trans rfl) (hw.o (i := 3) (by decide) rfl) rfl rfl (Nat.le_of_ble_eq_true rfl) (Nat.le_of_ble_eq_true rfl) (am_R.post H (fun v g5 hq => ?_))
        obtain ⟨rfl, hw, H⟩ := hq
        change am_R _ _ _ _ _ [] _ _
        refine am_R.next ((hp 43).trans rfl) rfl ?_
        refine am_R.next ((hp 44).trans rfl) rfl ?_
        refine r_cv (bs := [.inl x1]) (st' := []) ((hp 45).trans rfl) (hw.o (i := 2) (by decide) rfl) rfl rfl (Nat.le_of_ble_eq_true rfl) (Nat.le_of_ble_eq_true rfl) (am_R.post H (fun v g6 hq => ?_))
        obtain ⟨rfl, hw, H⟩ := hq
        change am_R _ _ _ _ _ [] _ _
        refine am_R.next ((hp 48).trans rfl) rfl ?_
        refine am_R.next ((hp 49).trans rfl) rfl ?_
        refine r_cv (bs := [.inl (-15)]) (st' := []) ((hp 51).trans rfl) (hw.o (i := 2) (by decide) rfl) rfl rfl (Nat.le_of_ble_eq_true rfl) (Nat.le_of_ble_eq_true rfl) (am_R.post H (fun v g7 hq => ?_))
        obtain ⟨rfl, hw, H⟩ := hq
        change am_R _ _ _ _ _ [] _ _
        obtain ⟨y8, ey8⟩ : ∃ z : Int, z = am_w (x2 + 1) := ⟨_, rfl⟩
        have H := H y8 ey8
        refine am_R.next (lv' := [some (.inr (.inr ((2 : Nat) : Int))), some (.inl x1), some (.inl y8)]) (st' := []) (h' := g7) (pc' := 57) ((hp 54).trans rfl) (by rw [ey8]; rfl) ?_
        refine am_R.next ((hp 57).trans rfl) rfl ?_
        exact H
theorem w_Reader_readUnit_0 {scr : Nat × (Nat → Int)} {d : Nat} {h : am_H} {Q : Option am_V → am_H → Prop} {x1 : Int} (hs : am_sc scr) (hw : wf h) (H : am_R (am_prog scr) d f_Tokens_isFaultless 0 [some (.inr (.inr ((3 : Nat) : Int)))] [] h (fun v g1 => ∃ r2 : Int, v = some (.inl r2) ∧ wf g1 ∧ ((¬ (r2 = 0) → (am_R (am_prog scr) d f_Tokens_is 0 [some (.inr (.inr ((3 : Nat) : Int))), some (.inr (.inr (-24))), none] [] g1 (fun v g3 => ∃ r4 : Int, v = some (.inl r4) ∧ wf g3 ∧ ((r4 = 0 → (am_R (am_prog scr) d f_Tokens_is 0 [some (.inr (.inr ((3 : Nat) : Int))), some (.inr (.inr (-25))), none] [] g3 (fun v g5 => ∃ r6 : Int, v = some (.inl r6) ∧ wf g5 ∧ ((r6 = 0 → (am_R (am_prog scr) d f_Reader_readComparison 0 [some (.inr (.inr ((2 : Nat) : Int))), some (.inl x1), none] [] g5 (fun v g7 => v = none ∧ wf g7 ∧ (Q none g7)))) ∧ (¬ (r6 = 0) → (am_R (am_prog scr) d f_Reader_goWithin 0 [some (.inr (.inr ((2 : Nat) : Int))), some (.inl x1)] [] g5 (fun v g8 => ∃ r9 : Int, v = some (.inl r9) ∧ wf g8 ∧ ((r9 = 0 → (Q none g8)) ∧ (¬ (r9 = 0) → (am_R (am_prog scr) d f_Reader_readTruth 0 [some (.inr (.inr ((2 : Nat) : Int))), some (.inl (am_w (x1 + 1))), none] [] g8 (fun v g10 => v = none ∧ wf g10 ∧ (am_R (am_prog scr) d f_Tokens_want 0 [some (.inr (.inr ((3 : Nat) : Int))), some (.inr (.inr (-26)))] [] g10 (fun v g11 => v = none ∧ wf g11 ∧ (Q none g11)))))))))))))) ∧ (¬ (r4 = 0) → (am_R (am_prog scr) d f_Reader_goWithin 0 [some (.inr (.inr ((2 : Nat) : Int))), some (.inl x1)] [] g3 (fun v g14 => ∃ r15 : Int, v = some (.inl r15) ∧ wf g14 ∧ ((r15 = 0 → (Q none g14)) ∧ (¬ (r15 = 0) → (am_R (am_prog scr) d f_Reader_readUnit 0 [some (.inr (.inr ((2 : Nat) : Int))), some (.inl (am_w (x1 + 1)))] [] g14 (fun v g16 => v = none ∧ wf g16 ∧ (am_R (am_prog scr) d f_Reader_append 0 [some (.inr (.inr ((2 : Nat) : Int))), some (.inl (-14))] [] g16 (fun v g17 => v = none ∧ wf g17 ∧ (Q none g17)))))))))))))) ∧ (r2 = 0 → (Q none g1))))) : am_R (am_prog scr) (d + 1) f_Reader_readUnit 0 [some (.inr (.inr ((2 : Nat) : Int))), some (.inl x1)] [] h Q := by
  have hp : ∀ k, (am_prog scr).1 f_Reader_readUnit k = c_Reader_readUnit k := fun _ => rfl
  refine am_R.next ((hp 0).trans rfl) rfl ?_
  refine r_getR ((hp 1).trans rfl) (hw.o (i := 2) (by decide) rfl) (hw.r wr_2_0) ?_
  refine r_cv (bs := []) (st' := []) ((hp 4).trans rfl) (hw.o (i := 3) (by decide) rfl) rfl rfl (Nat.le_of_ble_eq_true rfl) (Nat.le_of_ble_eq_true rfl) (am_R.post H (fun v g1 hq => ?_))
  obtain ⟨r2, rfl, hw, H⟩ := hq
  change am_R _ _ _ _ _ [.inl r2] _ _
  refine r_if ((hp 7).trans rfl) (fun c20 => ?_) (fun c20 => ?_)
  · have H := H.1 c20
    refine am_R.next ((hp 11).trans rfl) rfl ?_
    refine r_getR ((hp 12).trans rfl) (hw.o (i := 2) (by decide) rfl) (hw.r wr_2_0) ?_
    refine am_R.next ((hp 15).trans rfl) rfl ?_
    refine r_cv (bs := [.inr (.inr (-24))]) (st' := []) ((hp 17).trans rfl) (hw.o (i := 3) (by decide) rfl) rfl rfl (Nat.le_of_ble_eq_true rfl) (Nat.le_of_ble_eq_true rfl) (am_R.post H (fun v g3 hq => ?_))
    obtain ⟨r4, rfl, hw, H⟩ := hq
    change am_R _ _ _ _ _ [.inl r4] _ _
    refine r_if ((hp 20).trans rfl) (fun c19 => ?_) (fun c19 => ?_)
    · have H := H.1 c19
      refine am_R.next ((hp 47).trans rfl) rfl ?_
      refine r_getR ((hp 48).trans rfl) (hw.o (i := 2) (by decide) rfl) (hw.r wr_2_0) ?_
      refine am_R.next ((hp 51).trans rfl) rfl ?_
      refine r_cv (bs := [.inr (.inr (-25))]) (st' := []) ((hp 53).trans rfl) (hw.o (i := 3) (by decide) rfl) rfl rfl (Nat.le_of_ble_eq_true rfl) (Nat.le_of_ble_eq_true rfl) (am_R.post H (fun v g5 hq => ?_))
      obtain ⟨r6, rfl, hw, H⟩ := hq
      change am_R _ _ _ _ _ [.inl r6] _ _
      refine r_if ((hp 56).trans rfl) (fun c13 => ?_) (fun c13 => ?_)
      · have H := H.1 c13
        refine am_R.next ((hp 86).trans rfl) rfl ?_
        refine am_R.next ((hp 87).trans rfl) rfl ?_
        refine r_cv (bs := [.inl x1]) (st' := []) ((hp 88).trans rfl) (hw.o (i := 2) (by decide) rfl) rfl rfl (Nat.le_of_ble_eq_true rfl) (Nat.le_of_ble_eq_true rfl) (am_R.post H (fun v g7 hq => ?_))
        obtain ⟨rfl, hw, H⟩ := hq
        change am_R _ _ _ _ _ [] _ _
        exact am_R.ret ((hp 91).trans rfl) rfl H
      · have H := H.2 c13
        refine am_R.next ((hp 59).trans rfl) rfl ?_
        refine am_R.next ((hp 60).trans rfl) rfl ?_
        refine r_cv (bs := [.inl x1]) (st' := []) ((hp 61).trans rfl) (hw.o (i := 2) (by decide) rfl) rfl rfl (Nat.le_of_ble_eq_true rfl) (Nat.le_of_ble_eq_true rfl) (am_R.post H (fun v g8 hq => ?_))
        obtain ⟨r9, rfl, hw, H⟩ := hq
        change am_R _ _ _ _ _ [.inl r9] _ _
        refine r_if ((hp 64).trans rfl) (fun c12 => ?_) (fun c12 => ?_)
        · have H := H.1 c12
          exact am_R.ret ((hp 91).trans rfl) rfl H
        · have H := H.2 c12
          refine am_R.next ((hp 67).trans rfl) rfl ?_
          refine am_R.next ((hp 68).trans rfl) rfl ?_
          refine am_R.next ((hp 69).trans rfl) rfl ?_
          refine am_R.next ((hp 70).trans rfl) rfl ?_
          refine r_cv (bs := [.inl (am_w (x1 + 1))]) (st' := []) ((hp 71).trans rfl) (hw.o (i := 2) (by decide) rfl) rfl rfl (Nat.le_of_ble_eq_true rfl) (Nat.le_of_ble_eq_true rfl) (am_R.post H (fun v g10 hq => ?_))
          obtain ⟨rfl, hw, H⟩ := hq
          change am_R _ _ _ _ _ [] _ _
          refine am_R.next ((hp 74).trans rfl) rfl ?_
          refine r_getR ((hp 75).trans rfl) (hw.o (i := 2) (by decide) rfl) (hw.r wr_2_0) ?_
          refine am_R.next ((hp 78).trans rfl) rfl ?_
          refine r_cv (bs := [.inr (.inr (-26))]) (st' := []) ((hp 80).trans rfl) (hw.o (i := 3) (by decide) rfl) rfl rfl (Nat.le_of_ble_eq_true rfl) (Nat.le_of_ble_eq_true rfl) (am_R.post H (fun v g11 hq => ?_))
          obtain ⟨rfl, hw, H⟩ := hq
          change am_R _ _ _ _ _ [] _ _
          refine am_R.next ((hp 83).trans rfl) rfl ?_
          exact am_R.ret ((hp 91).trans rfl) rfl H
    · have H := H.2 c19
      refine am_R.next ((hp 23).trans rfl) rfl ?_
      refine am_R.next ((hp 24).trans rfl) rfl ?_
      refine r_cv (bs := [.inl x1]) (st' := []) ((hp 25).trans rfl) (hw.o (i := 2) (by decide) rfl) rfl rfl (Nat.le_of_ble_eq_true rfl) (Nat.le_of_ble_eq_true rfl) (am_R.post H (fun v g14 hq => ?_))
      obtain ⟨r15, rfl, hw, H⟩ := hq
      change am_R _ _ _ _ _ [.inl r15] _ _
      refine r_if ((hp 28).trans rfl) (fun c18 => ?_) (fun c18 => ?_)
      · have H := H.1 c18
        exact am_R.ret ((hp 91).trans rfl) rfl H
      · have H := H.2 c18
        refine am_R.next ((hp 31).trans rfl) rfl ?_
        refine am_R.next ((hp 32).trans rfl) rfl ?_
        refine am_R.next ((hp 33).trans rfl) rfl ?_
        refine am_R.next ((hp 34).trans rfl) rfl ?_
        refine r_cv (bs := [.inl (am_w (x1 + 1))]) (st' := []) ((hp 35).trans rfl) (hw.o (i := 2) (by decide) rfl) rfl rfl (Nat.le_of_ble_eq_true rfl) (Nat.le_of_ble_eq_true rfl) (am_R.post H (fun v g16 hq => ?_))
        obtain ⟨rfl, hw, H⟩ := hq
        change am_R _ _ _ _ _ [] _ _
        refine am_R.next ((hp 38).trans rfl) rfl ?_
        refine am_R.next ((hp 39).trans rfl) rfl ?_
        refine r_cv (bs := [.inl (-14)]) (st' := []) ((hp 41).trans rfl) (hw.o (i := 2) (by decide) rfl) rfl rfl (Nat.le_of_ble_eq_true rfl) (Nat.le_of_ble_eq_true rfl) (am_R.post H (fun v g17 hq => ?_))
        obtain ⟨rfl, hw, H⟩ := hq
        change am_R _ _ _ _ _ [] _ _
        refine am_R.next ((hp 44).trans rfl) rfl ?_
        exact am_R.ret ((hp 91).trans rfl) rfl H
  · have H := H.2 (Decidable.not_not.mp c20)
    exact am_R.ret ((hp 10).trans rfl) rfl H
theorem w_Reader_readComparison_0 {scr : Nat × (Nat → Int)} {d : Nat} {h : am_H} {Q : Option am_V → am_H → Prop} {x1 : Int} (hs : am_sc scr) (hw : wf h) (H : am_R (am_prog scr) d f_Reader_readSum 0 [some (.inr (.inr ((2 : Nat) : Int))), some (.inl x1), none, none, none, none] [] h (fun v g1 => v = none ∧ wf g1 ∧ (am_R (am_prog scr) d f_Tokens_isFaultless 0 [some (.inr (.inr ((3 : Nat) : Int)))] [] g1 (fun v g2 => ∃ r3 : Int, v = some (.inl r3) ∧ wf g2 ∧ ((¬ (r3 = 0) → (am_R (am_prog scr) d f_Tokens_is 0 [some (.inr (.inr ((3 : Nat) : Int))), some (.inr (.inr (-27))), none] [] g2 (fun v g4 => ∃ r5 : Int, v = some (.inl r5) ∧ wf g4 ∧ ((r5 = 0 → (am_R (am_prog scr) d f_Tokens_is 0 [some (.inr (.inr ((3 : Nat) : Int))), some (.inr (.inr (-28))), none] [] g4 (fun v g6 => ∃ r7 : Int, v = some (.inl r7) ∧ wf g6 ∧ ((r7 = 0 → (am_R (am_prog scr) d f_Tokens_is 0 [some (.inr (.inr ((3 : Nat) : Int))), some (.inr (.inr (-29))), none] [] g6 (fun v g8 => ∃ r9 : Int, v = some (.inl r9) ∧ wf g8 ∧ ((r9 = 0 → ((¬ ((0 : Int) = 0) → (am_R (am_prog scr) d f_Tokens_advance 0 [some (.inr (.inr ((3 : Nat) : Int))), none] [] g8 (fun v g10 => v = none ∧ wf g10 ∧ (am_R (am_prog scr) d f_Reader_readSum 0 [some (.inr (.inr ((2 : Nat) : Int))), some (.inl x1), none, none, none, none] [] g10 (fun v g11 => v = none ∧ wf g11 ∧ (am_R (am_prog scr) d f_Reader_append 0 [some (.inr (.inr ((2 : Nat) : Int))), some (.inl 0)] [] g11 (fun v g12 => v = none ∧ wf g12 ∧ (Q none g12)))))))) ∧ ((0 : Int) = 0 → (am_R (am_prog scr) d f_Tokens_refuse 0 [some (.inr (.inr ((3 : Nat) : Int))), some (.inl 2)] [] g8 (fun v g13 => v = none ∧ wf g13 ∧ (Q none g13)))))) ∧ (¬ (r9 = 0) → ((¬ (((-13) : Int) = 0) → (am_R (am_prog scr) d f_Tokens_advance 0 [some (.inr (.inr ((3 : Nat) : Int))), none] [] g8 (fun v g15 => v = none ∧ wf g15 ∧ (am_R (am_prog scr) d f_Reader_readSum 0 [some (.inr (.inr ((2 : Nat) : Int))), some (.inl x1), none, none, none, none] [] g15 (fun v g16 => v = none ∧ wf g16 ∧ (am_R (am_prog scr) d f_Reader_append 0 [some (.inr (.inr ((2 : Nat) : Int))), some (.inl (-13))] [] g16 (fun v g17 => v = none ∧ wf g17 ∧ (Q none g17)))))))) ∧ (((-13) : Int) = 0 → (am_R (am_prog scr) d f_Tokens_refuse 0 [some (.inr (.inr ((3 : Nat) : Int))), some (.inl 2)] [] g8 (fun v g18 => v = none ∧ wf g18 ∧ (Q none g18)))))))))) ∧ (¬ (r7 = 0) → ((¬ (((-12) : Int) = 0) → (am_R (am_prog scr) d f_Tokens_advance 0 [some (.inr (.inr ((3 : Nat) : Int))), none] [] g6 (fun v g21 => v = none ∧ wf g21 ∧ (am_R (am_prog scr) d f_Reader_readSum 0 [some (.inr (.inr ((2 : Nat) : Int))), some (.inl x1), none, none, none, none] [] g21 (fun v g22 => v = none ∧ wf g22 ∧ (am_R (am_prog scr) d f_Reader_append 0 [some (.inr (.inr ((2 : Nat) : Int))), some (.inl (-12))] [] g22 (fun v g23 => v = none ∧ wf g23 ∧ (Q none g23)))))))) ∧ (((-12) : Int) = 0 → (am_R (am_prog scr) d f_Tokens_refuse 0 [some (.inr (.inr ((3 : Nat) : Int))), some (.inl 2)] [] g6 (fun v g24 => v = none ∧ wf g24 ∧ (Q none g24)))))))))) ∧ (¬ (r5 = 0) → ((¬ (((-11) : Int) = 0) → (am_R (am_prog scr) d f_Tokens_advance 0 [some (.inr (.inr ((3 : Nat) : Int))), none] [] g4 (fun v g27 => v = none ∧ wf g27 ∧ (am_R (am_prog scr) d f_Reader_readSum 0 [some (.inr (.inr ((2 : Nat) : Int))), some (.inl x1), none, none, none, none] [] g27 (fun v g28 => v = none ∧ wf g28 ∧ (am_R (am_prog scr) d f_Reader_append 0 [some (.inr (.inr ((2 : Nat) : Int))), some (.inl (-11))] [] g28 (fun v g29 => v = none ∧ wf g29 ∧ (Q none g29)))))))) ∧ (((-11) : Int) = 0 → (am_R (am_prog scr) d f_Tokens_refuse 0 [some (.inr (.inr ((3 : Nat) : Int))), some (.inl 2)] [] g4 (fun v g30 => v = none ∧ wf g30 ∧ (Q none g30)))))))))) ∧ (r3 = 0 → (Q none g2))))))) : am_R (am_prog scr) (d + 1) f_Reader_readComparison 0 [some (.inr (.inr ((2 : Nat) : Int))), some (.inl x1), none] [] h Q := by
  have hp : ∀ k, (am_prog scr).1 f_Reader_readComparison k = c_Reader_readComparison k := fun _ => rfl
  refine am_R.next ((hp 0).trans rfl) rfl ?_
  refine am_R.next ((hp 1).trans rfl) rfl ?_
  refine r_cv (bs := [.inl x1]) (st' := []) ((hp 2).trans rfl) (hw.o (i := 2) (by decide) rfl) rfl rfl (Nat.le_of_ble_eq_true rfl) (Nat.le_of_ble_eq_true rfl) (am_R.post H (fun v g1 hq => ?_))
  obtain ⟨rfl, hw, H⟩ := hq
  change am_R _ _ _ _ _ [] _ _
  refine am_R.next ((hp 5).trans rfl) rfl ?_
  refine r_getR ((hp 6).trans rfl) (hw.o (i := 2) (by decide) rfl) (hw.r wr_2_0) ?_
  refine r_cv (bs := []) (st' := []) ((hp 9).trans rfl) (hw.o (i := 3) (by decide) rfl) rfl rfl (Nat.le_of_ble_eq_true rfl) (Nat.le_of_ble_eq_true rfl) (am_R.post H (fun v g2 hq => ?_))
  obtain ⟨r3, rfl, hw, H⟩ := hq
  change am_R _ _ _ _ _ [.inl r3] _ _
  refine r_if ((hp 12).trans rfl) (fun c33 => ?_) (fun c33 => ?_)
  · have H := H.1 c33
    refine am_R.next ((hp 16).trans rfl) rfl ?_
    refine r_getR ((hp 17).trans rfl) (hw.o (i := 2) (by decide) rfl) (hw.r wr_2_0) ?_
    refine am_R.next ((hp 20).trans rfl) rfl ?_
    refine r_cv (bs := [.inr (.inr (-27))]) (st' := []) ((hp 22).trans rfl) (hw.o (i := 3) (by decide) rfl) rfl rfl (Nat.le_of_ble_eq_true rfl) (Nat.le_of_ble_eq_true rfl) (am_R.post H (fun v g4 hq => ?_))
    obtain ⟨r5, rfl, hw, H⟩ := hq
    change am_R _ _ _ _ _ [.inl r5] _ _
    refine r_if ((hp 25).trans rfl) (fun c32 => ?_) (fun c32 => ?_)
    · have H := H.1 c32
      refine am_R.next ((hp 33).trans rfl) rfl ?_
      refine r_getR ((hp 34).trans rfl) (hw.o (i := 2) (by decide) rfl) (hw.r wr_2_0) ?_
      refine am_R.next ((hp 37).trans rfl) rfl ?_
      refine r_cv (bs := [.inr (.inr (-28))]) (st' := []) ((hp 39).trans rfl) (hw.o (i := 3) (by decide) rfl) rfl rfl (Nat.le_of_ble_eq_true rfl) (Nat.le_of_ble_eq_true rfl) (am_R.post H (fun v g6 hq => ?_))
      obtain ⟨r7, rfl, hw, H⟩ := hq
      change am_R _ _ _ _ _ [.inl r7] _ _
      refine r_if ((hp 42).trans rfl) (fun c26 => ?_) (fun c26 => ?_)
      · have H := H.1 c26
        refine am_R.next ((hp 50).trans rfl) rfl ?_
        refine r_getR ((hp 51).trans rfl) (hw.o (i := 2) (by decide) rfl) (hw.r wr_2_0) ?_
        refine am_R.next ((hp 54).trans rfl) rfl ?_
        refine r_cv (bs := [.inr (.inr (-29))]) (st' := []) ((hp 56).trans rfl) (hw.o (i := 3) (by decide) rfl) rfl rfl (Nat.le_of_ble_eq_true rfl) (Nat.le_of_ble_eq_true rfl) (am_R.post H (fun v g8 hq => ?_))
        obtain ⟨r9, rfl, hw, H⟩ := hq
        change am_R _ _ _ _ _ [.inl r9] _ _
        refine r_if ((hp 59).trans rfl) (fun c20 => ?_) (fun c20 => ?_)
        · have H := H.1 c20
          refine am_R.next ((hp 67).trans rfl) rfl ?_
          refine am_R.next (lv' := [some (.inr (.inr ((2 : Nat) : Int))), some (.inl x1), some (.inl 0)]) ((hp 68).trans rfl) rfl ?_
          refine am_R.next ((hp 69).trans rfl) rfl ?_
          refine r_if ((hp 70).trans rfl) (fun c14 => ?_) (fun c14 => ?_)
          · have H := H.1 c14
            refine am_R.next ((hp 82).trans rfl) rfl ?_
            refine r_getR ((hp 83).trans rfl) (hw.o (i := 2) (by decide) rfl) (hw.r wr_2_0) ?_
            refine r_cv (bs := []) (st' := []) ((hp 86).trans rfl) (hw.o (i := 3) (by decide) rfl) rfl rfl (Nat.le_of_ble_eq_true rfl) (Nat.le_of_ble_eq_true rfl) (am_R.post H (fun v g10 hq => ?_))
            obtain ⟨rfl, hw, H⟩ := hq
            change am_R _ _ _ _ _ [] _ _
            refine am_R.next ((hp 89).trans rfl) rfl ?_
            refine am_R.next ((hp 90).trans rfl) rfl ?_
            refine r_cv (bs := [.inl x1]) (st' := []) ((hp 91).trans rfl) (hw.o (i := 2) (by decide) rfl) rfl rfl (Nat.le_of_ble_eq_true rfl) (Nat.le_of_ble_eq_true rfl) (am_R.post H (fun v g11 hq => ?_))
            obtain ⟨rfl, hw, H⟩ := hq
            change am_R _ _ _ _ _ [] _ _
            refine am_R.next ((hp 94).trans rfl) rfl ?_
            refine am_R.next ((hp 95).trans rfl) rfl ?_
            refine r_cv (bs := [.inl 0]) (st' := []) ((hp 96).trans rfl) (hw.o (i := 2) (by decide) rfl) rfl rfl (Nat.le_of_ble_eq_true rfl) (Nat.le_of_ble_eq_true rfl) (am_R.post H (fun v g12 hq => ?_))
            obtain ⟨rfl, hw, H⟩ := hq
            change am_R _ _ _ _ _ [] _ _
            exact am_R.ret ((hp 99).trans rfl) rfl H
          · have H := H.2 (Decidable.not_not.mp c14)
            refine am_R.next ((hp 73).trans rfl) rfl ?_
            refine r_getR ((hp 74).trans rfl) (hw.o (i := 2) (by decide) rfl) (hw.r wr_2_0) ?_
            refine am_R.next ((hp 77).trans rfl) rfl ?_
            refine r_cv (bs := [.inl 2]) (st' := []) ((hp 78).trans rfl) (hw.o (i := 3) (by decide) rfl) rfl rfl (Nat.le_of_ble_eq_true rfl) (Nat.le_of_ble_eq_true rfl) (am_R.post H (fun v g13 hq => ?_))
            obtain ⟨rfl, hw, H⟩ := hq
            change am_R _ _ _ _ _ [] _ _
            exact am_R.ret ((hp 81).trans rfl) rfl H
        · have H := H.2 c20
          refine am_R.next ((hp 62).trans rfl) rfl ?_
          refine am_R.next ((hp 64).trans rfl) rfl ?_
          refine am_R.next (lv' := [some (.inr (.inr ((2 : Nat) : Int))), some (.inl x1), some (.inl (-13))]) ((hp 68).trans rfl) rfl ?_
          refine am_R.next ((hp 69).trans rfl) rfl ?_
          refine r_if ((hp 70).trans rfl) (fun c19 => ?_) (fun c19 => ?_)
          · have H := H.1 c19
            refine am_R.next ((hp 82).trans rfl) rfl ?_
            refine r_getR ((hp 83).trans rfl) (hw.o (i := 2) (by decide) rfl) (hw.r wr_2_0) ?_
            refine r_cv (bs := []) (st' := []) ((hp 86).trans rfl) (hw.o (i := 3) (by decide) rfl) rfl rfl (Nat.le_of_ble_eq_true rfl) (Nat.le_of_ble_eq_true rfl) (am_R.post H (fun v g15 hq => ?_))
            obtain ⟨rfl, hw, H⟩ := hq
            change am_R _ _ _ _ _ [] _ _
            refine am_R.next ((hp 89).trans rfl) rfl ?_
            refine am_R.next ((hp 90).trans rfl) rfl ?_
            refine r_cv (bs := [.inl x1]) (st' := []) ((hp 91).trans rfl) (hw.o (i := 2) (by decide) rfl) rfl rfl (Nat.le_of_ble_eq_true rfl) (Nat.le_of_ble_eq_true rfl) (am_R.post H (fun v g16 hq => ?_))
            obtain ⟨rfl, hw, H⟩ := hq
            change am_R _ _ _ _ _ [] _ _
            refine am_R.next ((hp 94).trans rfl) rfl ?_
            refine am_R.next ((hp 95).trans rfl) rfl ?_
            refine r_cv (bs := [.inl (-13)]) (st' := []) ((hp 96).trans rfl) (hw.o (i := 2) (by decide) rfl) rfl rfl (Nat.le_of_ble_eq_true rfl) (Nat.le_of_ble_eq_true rfl) (am_R.post H (fun v g17 hq => ?_))
            obtain ⟨rfl, hw, H⟩ := hq
            change am_R _ _ _ _ _ [] _ _
            exact am_R.ret ((hp 99).trans rfl) rfl H
          · have H := H.2 (Decidable.not_not.mp c19)
            refine am_R.next ((hp 73).trans rfl) rfl ?_
            refine r_getR ((hp 74).trans rfl) (hw.o (i := 2) (by decide) rfl) (hw.r wr_2_0) ?_
            refine am_R.next ((hp 77).trans rfl) rfl ?_
            refine r_cv (bs := [.inl 2]) (st' := []) ((hp 78).trans rfl) (hw.o (i := 3) (by decide) rfl) rfl rfl (Nat.le_of_ble_eq_true rfl) (Nat.le_of_ble_eq_true rfl) (am_R.post H (fun v g18 hq => ?_))
            obtain ⟨rfl, hw, H⟩ := hq
            change am_R _ _ _ _ _ [] _ _
            exact am_R.ret ((hp 81).trans rfl) rfl H
      · have H := H.2 c26
        refine am_R.next ((hp 45).trans rfl) rfl ?_
        refine am_R.next ((hp 47).trans rfl) rfl ?_
        refine am_R.next (lv' := [some (.inr (.inr ((2 : Nat) : Int))), some (.inl x1), some (.inl (-12))]) ((hp 68).trans rfl) rfl ?_
        refine am_R.next ((hp 69).trans rfl) rfl ?_
        refine r_if ((hp 70).trans rfl) (fun c25 => ?_) (fun c25 => ?_)
        · have H := H.1 c25
          refine am_R.next ((hp 82).trans rfl) rfl ?_
          refine r_getR ((hp 83).trans rfl) (hw.o (i := 2) (by decide) rfl) (hw.r wr_2_0) ?_
          refine r_cv (bs := []) (st' := []) ((hp 86).trans rfl) (hw.o (i := 3) (by decide) rfl) rfl rfl (Nat.le_of_ble_eq_true rfl) (Nat.le_of_ble_eq_true rfl) (am_R.post H (fun v g21 hq => ?_))
          obtain ⟨rfl, hw, H⟩ := hq
          change am_R _ _ _ _ _ [] _ _
          refine am_R.next ((hp 89).trans rfl) rfl ?_
          refine am_R.next ((hp 90).trans rfl) rfl ?_
          refine r_cv (bs := [.inl x1]) (st' := []) ((hp 91).trans rfl) (hw.o (i := 2) (by decide) rfl) rfl rfl (Nat.le_of_ble_eq_true rfl) (Nat.le_of_ble_eq_true rfl) (am_R.post H (fun v g22 hq => ?_))
          obtain ⟨rfl, hw, H⟩ := hq
          change am_R _ _ _ _ _ [] _ _
          refine am_R.next ((hp 94).trans rfl) rfl ?_
          refine am_R.next ((hp 95).trans rfl) rfl ?_
          refine r_cv (bs := [.inl (-12)]) (st' := []) ((hp 96).trans rfl) (hw.o (i := 2) (by decide) rfl) rfl rfl (Nat.le_of_ble_eq_true rfl) (Nat.le_of_ble_eq_true rfl) (am_R.post H (fun v g23 hq => ?_))
          obtain ⟨rfl, hw, H⟩ := hq
          change am_R _ _ _ _ _ [] _ _
          exact am_R.ret ((hp 99).trans rfl) rfl H
        · have H := H.2 (Decidable.not_not.mp c25)
          refine am_R.next ((hp 73).trans rfl) rfl ?_
          refine r_getR ((hp 74).trans rfl) (hw.o (i := 2) (by decide) rfl) (hw.r wr_2_0) ?_
          refine am_R.next ((hp 77).trans rfl) rfl ?_
          refine r_cv (bs := [.inl 2]) (st' := []) ((hp 78).trans rfl) (hw.o (i := 3) (by decide) rfl) rfl rfl (Nat.le_of_ble_eq_true rfl) (Nat.le_of_ble_eq_true rfl) (am_R.post H (fun v g24 hq => ?_))
          obtain ⟨rfl, hw, H⟩ := hq
          change am_R _ _ _ _ _ [] _ _
          exact am_R.ret ((hp 81).trans rfl) rfl H
    · have H := H.2 c32
      refine am_R.next ((hp 28).trans rfl) rfl ?_
      refine am_R.next ((hp 30).trans rfl) rfl ?_
      refine am_R.next (lv' := [some (.inr (.inr ((2 : Nat) : Int))), some (.inl x1), some (.inl (-11))]) ((hp 68).trans rfl) rfl ?_
      refine am_R.next ((hp 69).trans rfl) rfl ?_
      refine r_if ((hp 70).trans rfl) (fun c31 => ?_) (fun c31 => ?_)
      · have H := H.1 c31
        refine am_R.next ((hp 82).trans rfl) rfl ?_
        refine r_getR ((hp 83).trans rfl) (hw.o (i := 2) (by decide) rfl) (hw.r wr_2_0) ?_
        refine r_cv (bs := []) (st' := []) ((hp 86).trans rfl) (hw.o (i := 3) (by decide) rfl) rfl rfl (Nat.le_of_ble_eq_true rfl) (Nat.le_of_ble_eq_true rfl) (am_R.post H (fun v g27 hq => ?_))
        obtain ⟨rfl, hw, H⟩ := hq
        change am_R _ _ _ _ _ [] _ _
        refine am_R.next ((hp 89).trans rfl) rfl ?_
        refine am_R.next ((hp 90).trans rfl) rfl ?_
        refine r_cv (bs := [.inl x1]) (st' := []) ((hp 91).trans rfl) (hw.o (i := 2) (by decide) rfl) rfl rfl (Nat.le_of_ble_eq_true rfl) (Nat.le_of_ble_eq_true rfl) (am_R.post H (fun v g28 hq => ?_))
        obtain ⟨rfl, hw, H⟩ := hq
        change am_R _ _ _ _ _ [] _ _
        refine am_R.next ((hp 94).trans rfl) rfl ?_
        refine am_R.next ((hp 95).trans rfl) rfl ?_
        refine r_cv (bs := [.inl (-11)]) (st' := []) ((hp 96).trans rfl) (hw.o (i := 2) (by decide) rfl) rfl rfl (Nat.le_of_ble_eq_true rfl) (Nat.le_of_ble_eq_true rfl) (am_R.post H (fun v g29 hq => ?_))
        obtain ⟨rfl, hw, H⟩ := hq
        change am_R _ _ _ _ _ [] _ _
        exact am_R.ret ((hp 99).trans rfl) rfl H
      · have H := H.2 (Decidable.not_not.mp c31)
        refine am_R.next ((hp 73).trans rfl) rfl ?_
        refine r_getR ((hp 74).trans rfl) (hw.o (i := 2) (by decide) rfl) (hw.r wr_2_0) ?_
        refine am_R.next ((hp 77).trans rfl) rfl ?_
        refine r_cv (bs := [.inl 2]) (st' := []) ((hp 78).trans rfl) (hw.o (i := 3) (by decide) rfl) rfl rfl (Nat.le_of_ble_eq_true rfl) (Nat.le_of_ble_eq_true rfl) (am_R.post H (fun v g30 hq => ?_))
        obtain ⟨rfl, hw, H⟩ := hq
        change am_R _ _ _ _ _ [] _ _
        exact am_R.ret ((hp 81).trans rfl) rfl H
  · have H := H.2 (Decidable.not_not.mp c33)
    exact am_R.ret ((hp 15).trans rfl) rfl H
theorem w_Reader_append_0 {scr : Nat × (Nat → Int)} {d : Nat} {h : am_H} {Q : Option am_V → am_H → Prop} {x1 : Int} (hs : am_sc scr) (hw : wf h) (H : (¬ ((h.2.2.2 2 2) < 900) → (Q none h)) ∧ ((h.2.2.2 2 2) < 900 → (((0 ≤ (h.2.2.2 2 2) ∧ (h.2.2.2 2 2) < 900)) ∧ (∀ h2 : am_H, h2 = am_put h 5 ((h.2.2.2 2 2).toNat) x1 → (∀ h3 : am_H, h3 = am_put h2 2 2 (am_w ((h2.2.2.2 2 2) + 1)) → (Q none h3)))))) : am_R (am_prog scr) d f_Reader_append 0 [some (.inr (.inr ((2 : Nat) : Int))), some (.inl x1)] [] h Q := by
  have hp : ∀ k, (am_prog scr).1 f_Reader_append k = c_Reader_append k := fun _ => rfl
  refine am_R.next ((hp 0).trans rfl) rfl ?_
  refine r_getI ((hp 1).trans rfl) (hw.o (i := 2) (by decide) rfl) ?_
  refine am_R.next ((hp 4).trans rfl) rfl ?_
  refine r_getR ((hp 5).trans rfl) (hw.o (i := 2) (by decide) rfl) (hw.r wr_2_1) ?_
  refine r_alen (n := 900) ((hp 8).trans rfl) (hw.l (i := 5) (by decide) rfl (by decide)) (congrArg Prod.snd (hw.k (i := 5) (x := (1, 900)) (by decide) rfl)) ?_
  refine r_ic ((hp 9).trans rfl) (fun c4 => ?_) (fun c4 => ?_)
  · have H := H.1 c4
    exact am_R.ret ((hp 32).trans rfl) rfl H
  · have H := H.2 (Decidable.not_not.mp c4)
    refine am_R.next ((hp 12).trans rfl) rfl ?_
    refine r_getR ((hp 13).trans rfl) (hw.o (i := 2) (by decide) rfl) (hw.r wr_2_1) ?_
    refine am_R.next ((hp 16).trans rfl) rfl ?_
    refine r_getI ((hp 17).trans rfl) (hw.o (i := 2) (by decide) rfl) ?_
    refine am_R.next ((hp 20).trans rfl) rfl ?_
    obtain ⟨c1, H⟩ := H
    obtain ⟨h2, eh2⟩ : ∃ z : am_H, z = am_put h 5 ((h.2.2.2 2 2).toNat) x1 := ⟨_, rfl⟩
    have H := H h2 eh2
    refine r_iast ((hp 21).trans rfl) (hw.a (i := 5) (by decide) rfl c1.1 c1.2) ?_
    have hw : wf h2 := by rw [eh2]; exact hw.pa na_5
    change am_R _ _ _ _ _ _ (am_put h 5 ((h.2.2.2 2 2).toNat) x1) _
    rw [← eh2]
    refine am_R.next ((hp 22).trans rfl) rfl ?_
    refine am_R.next ((hp 23).trans rfl) rfl ?_
    refine r_getI ((hp 24).trans rfl) (hw.o (i := 2) (by decide) rfl) ?_
    refine am_R.next ((hp 27).trans rfl) rfl ?_
    refine am_R.next ((hp 28).trans rfl) rfl ?_
    obtain ⟨h3, eh3⟩ : ∃ z : am_H, z = am_put h2 2 2 (am_w ((h2.2.2.2 2 2) + 1)) := ⟨_, rfl⟩
    have H := H h3 eh3
    refine r_putI ((hp 29).trans rfl) (hw.o (i := 2) (by decide) rfl) ?_
    have hw : wf h3 := by rw [eh3]; exact hw.put np_2_2
    change am_R _ _ _ _ _ _ (am_put h2 2 2 (am_w ((h2.2.2.2 2 2) + 1))) _
    rw [← eh3]
    exact am_R.ret ((hp 32).trans rfl) rfl H
theorem w_Reader_aim_0 {scr : Nat × (Nat → Int)} {d : Nat} {h : am_H} {Q : Option am_V → am_H → Prop} {x1 : Int} (hs : am_sc scr) (hw : wf h) (H : (¬ (x1 < 900) → (Q none h)) ∧ (x1 < 900 → (((0 ≤ x1 ∧ x1 < 900)) ∧ (∀ h2 : am_H, h2 = am_put h 5 x1.toNat (h.2.2.2 2 2) → (Q none h2))))) : am_R (am_prog scr) d f_Reader_aim 0 [some (.inr (.inr ((2 : Nat) : Int))), some (.inl x1)] [] h Q := by
  have hp : ∀ k, (am_prog scr).1 f_Reader_aim k = c_Reader_aim k := fun _ => rfl
  refine am_R.next ((hp 0).trans rfl) rfl ?_
  refine am_R.next ((hp 1).trans rfl) rfl ?_
  refine r_getR ((hp 2).trans rfl) (hw.o (i := 2) (by decide) rfl) (hw.r wr_2_1) ?_
  refine r_alen (n := 900) ((hp 5).trans rfl) (hw.l (i := 5) (by decide) rfl (by decide)) (congrArg Prod.snd (hw.k (i := 5) (x := (1, 900)) (by decide) rfl)) ?_
  refine r_ic ((hp 6).trans rfl) (fun c3 => ?_) (fun c3 => ?_)
  · have H := H.1 c3
    exact am_R.ret ((hp 19).trans rfl) rfl H
  · have H := H.2 (Decidable.not_not.mp c3)
    refine am_R.next ((hp 9).trans rfl) rfl ?_
    refine r_getR ((hp 10).trans rfl) (hw.o (i := 2) (by decide) rfl) (hw.r wr_2_1) ?_
    refine am_R.next ((hp 13).trans rfl) rfl ?_
    refine am_R.next ((hp 14).trans rfl) rfl ?_
    refine r_getI ((hp 15).trans rfl) (hw.o (i := 2) (by decide) rfl) ?_
    obtain ⟨c1, H⟩ := H
    obtain ⟨h2, eh2⟩ : ∃ z : am_H, z = am_put h 5 x1.toNat (h.2.2.2 2 2) := ⟨_, rfl⟩
    have H := H h2 eh2
    refine r_iast ((hp 18).trans rfl) (hw.a (i := 5) (by decide) rfl c1.1 c1.2) ?_
    have hw : wf h2 := by rw [eh2]; exact hw.pa na_5
    change am_R _ _ _ _ _ _ (am_put h 5 x1.toNat (h.2.2.2 2 2)) _
    rw [← eh2]
    exact am_R.ret ((hp 19).trans rfl) rfl H
theorem w_Search_isGoal_0 {scr : Nat × (Nat → Int)} {d : Nat} {h : am_H} {Q : Option am_V → am_H → Prop} {x1 x2 : Int} (hs : am_sc scr) (hw : wf h) (H : (x2 = 0 → (am_R (am_prog scr) d f_Graph_isEnd 0 [some (.inr (.inr ((30 : Nat) : Int))), some (.inl x1)] [] h (fun v g1 => ∃ r2 : Int, v = some (.inl r2) ∧ wf g1 ∧ ((r2 = 0 ∨ r2 = 1) ∧ Q (some (.inl r2)) g1)))) ∧ (¬ (x2 = 0) → (am_R (am_prog scr) d f_Graph_isStill 0 [some (.inr (.inr ((30 : Nat) : Int))), some (.inl x1)] [] h (fun v g4 => ∃ r5 : Int, v = some (.inl r5) ∧ wf g4 ∧ ((r5 = 0 ∨ r5 = 1) ∧ Q (some (.inl r5)) g4))))) : am_R (am_prog scr) (d + 1) f_Search_isGoal 0 [some (.inr (.inr ((40 : Nat) : Int))), some (.inl x1), some (.inl x2)] [] h Q := by
  have hp : ∀ k, (am_prog scr).1 f_Search_isGoal k = c_Search_isGoal k := fun _ => rfl
  refine am_R.next ((hp 0).trans rfl) rfl ?_
  refine r_if ((hp 1).trans rfl) (fun c7 => ?_) (fun c7 => ?_)
  · have H := H.1 c7
    refine am_R.next ((hp 15).trans rfl) rfl ?_
    refine r_getR ((hp 16).trans rfl) (hw.o (i := 40) (by decide) rfl) (hw.r wr_40_0) ?_
    refine am_R.next ((hp 19).trans rfl) rfl ?_
    refine r_cv (bs := [.inl x1]) (st' := []) ((hp 20).trans rfl) (hw.o (i := 30) (by decide) rfl) rfl rfl (Nat.le_of_ble_eq_true rfl) (Nat.le_of_ble_eq_true rfl) (am_R.post H (fun v g1 hq => ?_))
    obtain ⟨r2, rfl, hw, H⟩ := hq
    change am_R _ _ _ _ _ [.inl r2] _ _
    obtain ⟨c3, H⟩ := H
    exact r_zret ((hp 23).trans rfl) c3 H
  · have H := H.2 c7
    refine am_R.next ((hp 4).trans rfl) rfl ?_
    refine r_getR ((hp 5).trans rfl) (hw.o (i := 40) (by decide) rfl) (hw.r wr_40_0) ?_
    refine am_R.next ((hp 8).trans rfl) rfl ?_
    refine r_cv (bs := [.inl x1]) (st' := []) ((hp 9).trans rfl) (hw.o (i := 30) (by decide) rfl) rfl rfl (Nat.le_of_ble_eq_true rfl) (Nat.le_of_ble_eq_true rfl) (am_R.post H (fun v g4 hq => ?_))
    obtain ⟨r5, rfl, hw, H⟩ := hq
    change am_R _ _ _ _ _ [.inl r5] _ _
    refine am_R.next ((hp 12).trans rfl) rfl ?_
    obtain ⟨c6, H⟩ := H
    exact r_zret ((hp 23).trans rfl) c6 H
theorem w_Search_clear_0 {scr : Nat × (Nat → Int)} {d : Nat} {h : am_H} {Q : Option am_V → am_H → Prop} {x2 a1 : Int} (hs : am_sc scr) (hw : wf h) (H : am_R (am_prog scr) (d + 1) f_Search_clear 2 [some (.inr (.inr ((40 : Nat) : Int))), some (.inr (.inr a1)), some (.inl x2), some (.inl 0)] [] h Q) : am_R (am_prog scr) (d + 1) f_Search_clear 0 [some (.inr (.inr ((40 : Nat) : Int))), some (.inr (.inr a1)), some (.inl x2), none] [] h Q := by
  have hp : ∀ k, (am_prog scr).1 f_Search_clear k = c_Search_clear k := fun _ => rfl
  refine am_R.next ((hp 0).trans rfl) rfl ?_
  refine am_R.next (lv' := [some (.inr (.inr ((40 : Nat) : Int))), some (.inr (.inr a1)), some (.inl x2), some (.inl 0)]) ((hp 1).trans rfl) rfl ?_
  exact H
theorem w_Search_clear_2 {scr : Nat × (Nat → Int)} {d : Nat} {h : am_H} {Q : Option am_V → am_H → Prop} {x2 x3 a1 : Int} (hs : am_sc scr) (hw : wf h) (H : (0 ≤ a1 ∧ 1 ≤ (h.2.2.1 a1.toNat).1 ∧ (h.2.2.1 a1.toNat).1 ≤ 6 ∧ (h.2.2.1 a1.toNat).2 ≤ 1000000) ∧ ((¬ (x3 < ((h.2.2.1 a1.toNat).2 : Int)) → (Q none h)) ∧ (x3 < ((h.2.2.1 a1.toNat).2 : Int) → (am_R (am_prog scr) d f_Search_isGoal 0 [some (.inr (.inr ((40 : Nat) : Int))), some (.inl x3), some (.inl x2)] [] h (fun v g2 => ∃ r3 : Int, v = some (.inl r3) ∧ wf g2 ∧ ((r3 = 0 → ((am_inA g2 a1 1 x3) ∧ ((a1.toNat ∉ wr_o) ∧ (∀ h6 : am_H, h6 = am_put g2 a1.toNat x3.toNat (-1) → (∀ y7 : Int, y7 = am_w (x3 + 1) → (am_R (am_prog scr) (d + 1) f_Search_clear 2 [some (.inr (.inr ((40 : Nat) : Int))), some (.inr (.inr a1)), some (.inl x2), some (.inl y7)] [] h6 Q)))))) ∧ (¬ (r3 = 0) → ((am_inA g2 a1 1 x3) ∧ ((a1.toNat ∉ wr_o) ∧ (∀ h10 : am_H, h10 = am_put g2 a1.toNat x3.toNat 0 → (∀ y11 : Int, y11 = am_w (x3 + 1) → (am_R (am_prog scr) (d + 1) f_Search_clear 2 [some (.inr (.inr ((40 : Nat) : Int))), some (.inr (.inr a1)), some (.inl x2), some (.inl y11)] [] h10 Q)))))))))))) : am_R (am_prog scr) (d + 1) f_Search_clear 2 [some (.inr (.inr ((40 : Nat) : Int))), some (.inr (.inr a1)), some (.inl x2), some (.inl x3)] [] h Q := by
  have hp : ∀ k, (am_prog scr).1 f_Search_clear k = c_Search_clear k := fun _ => rfl
  refine am_R.next ((hp 2).trans rfl) rfl ?_
  refine am_R.next ((hp 3).trans rfl) rfl ?_
  obtain ⟨c1, H⟩ := H
  refine r_alen ((hp 4).trans rfl) c1 rfl ?_
  refine r_ic ((hp 5).trans rfl) (fun c13 => ?_) (fun c13 => ?_)
  · have H := H.1 c13
    exact am_R.ret ((hp 31).trans rfl) rfl H
  · have H := H.2 (Decidable.not_not.mp c13)
    refine am_R.next ((hp 8).trans rfl) rfl ?_
    refine am_R.next ((hp 9).trans rfl) rfl ?_
    refine am_R.next ((hp 10).trans rfl) rfl ?_
    refine am_R.next ((hp 11).trans rfl) rfl ?_
    refine am_R.next ((hp 12).trans rfl) rfl ?_
    refine r_cv (bs := [.inl x3, .inl x2]) (st' := [.inl x3, .inr (.inr a1)]) ((hp 13).trans rfl) (hw.o (i := 40) (by decide) rfl) rfl rfl (Nat.le_of_ble_eq_true rfl) (Nat.le_of_ble_eq_true rfl) (am_R.post H (fun v g2 hq => ?_))
    obtain ⟨r3, rfl, hw, H⟩ := hq
    change am_R _ _ _ _ _ [.inl r3, .inl x3, .inr (.inr a1)] _ _
    refine r_if ((hp 16).trans rfl) (fun c12 => ?_) (fun c12 => ?_)
    · have H := H.1 c12
      refine am_R.next ((hp 23).trans rfl) rfl ?_
      obtain ⟨c4, H⟩ := H
      obtain ⟨c5, H⟩ := H
      obtain ⟨h6, eh6⟩ : ∃ z : am_H, z = am_put g2 a1.toNat x3.toNat (-1) := ⟨_, rfl⟩
      have H := H h6 eh6
      refine r_iast ((hp 24).trans rfl) c4 ?_
      have hw : wf h6 := by rw [eh6]; exact hw.pa c5
      change am_R _ _ _ _ _ _ (am_put g2 a1.toNat x3.toNat (-1)) _
      rw [← eh6]
      obtain ⟨y7, ey7⟩ : ∃ z : Int, z = am_w (x3 + 1) := ⟨_, rfl⟩
      have H := H y7 ey7
      refine am_R.next (lv' := [some (.inr (.inr ((40 : Nat) : Int))), some (.inr (.inr a1)), some (.inl x2), some (.inl y7)]) (st' := []) (h' := h6) (pc' := 28) ((hp 25).trans rfl) (by rw [ey7]; rfl) ?_
      refine am_R.next ((hp 28).trans rfl) rfl ?_
      exact H
    · have H := H.2 c12
      refine am_R.next ((hp 19).trans rfl) rfl ?_
      refine am_R.next ((hp 20).trans rfl) rfl ?_
      obtain ⟨c8, H⟩ := H
      obtain ⟨c9, H⟩ := H
      obtain ⟨h10, eh10⟩ : ∃ z : am_H, z = am_put g2 a1.toNat x3.toNat 0 := ⟨_, rfl⟩
      have H := H h10 eh10
      refine r_iast ((hp 24).trans rfl) c8 ?_
      have hw : wf h10 := by rw [eh10]; exact hw.pa c9
      change am_R _ _ _ _ _ _ (am_put g2 a1.toNat x3.toNat 0) _
      rw [← eh10]
      obtain ⟨y11, ey11⟩ : ∃ z : Int, z = am_w (x3 + 1) := ⟨_, rfl⟩
      have H := H y11 ey11
      refine am_R.next (lv' := [some (.inr (.inr ((40 : Nat) : Int))), some (.inr (.inr a1)), some (.inl x2), some (.inl y11)]) (st' := []) (h' := h10) (pc' := 28) ((hp 25).trans rfl) (by rw [ey11]; rfl) ?_
      refine am_R.next ((hp 28).trans rfl) rfl ?_
      exact H
theorem w_Search_fewest_0 {scr : Nat × (Nat → Int)} {d : Nat} {h : am_H} {Q : Option am_V → am_H → Prop} {x1 : Int} (hs : am_sc scr) (hw : wf h) (H : am_R (am_prog scr) d f_Search_clear 0 [some (.inr (.inr ((40 : Nat) : Int))), some (.inr (.inr ((41 : Nat) : Int))), some (.inl x1), none] [] h (fun v g1 => v = none ∧ wf g1 ∧ (am_R (am_prog scr) (d + 1) f_Search_fewest 13 [some (.inr (.inr ((40 : Nat) : Int))), some (.inl x1), some (.inl 1), some (.inl 1), none, none] [] g1 Q))) : am_R (am_prog scr) (d + 1) f_Search_fewest 0 [some (.inr (.inr ((40 : Nat) : Int))), some (.inl x1), none, none, none, none] [] h Q := by
  have hp : ∀ k, (am_prog scr).1 f_Search_fewest k = c_Search_fewest k := fun _ => rfl
  refine am_R.next ((hp 0).trans rfl) rfl ?_
  refine am_R.next ((hp 1).trans rfl) rfl ?_
  refine r_getR ((hp 2).trans rfl) (hw.o (i := 40) (by decide) rfl) (hw.r wr_40_1) ?_
  refine am_R.next ((hp 5).trans rfl) rfl ?_
  refine r_cv (bs := [.inr (.inr ((41 : Nat) : Int)), .inl x1]) (st' := []) ((hp 6).trans rfl) (hw.o (i := 40) (by decide) rfl) rfl rfl (Nat.le_of_ble_eq_true rfl) (Nat.le_of_ble_eq_true rfl) (am_R.post H (fun v g1 hq => ?_))
  obtain ⟨rfl, hw, H⟩ := hq
  change am_R _ _ _ _ _ [] _ _
  refine am_R.next ((hp 9).trans rfl) rfl ?_
  refine am_R.next (lv' := [some (.inr (.inr ((40 : Nat) : Int))), some (.inl x1), some (.inl 1), none, none, none]) ((hp 10).trans rfl) rfl ?_
  refine am_R.next ((hp 11).trans rfl) rfl ?_
  refine am_R.next (lv' := [some (.inr (.inr ((40 : Nat) : Int))), some (.inl x1), some (.inl 1), some (.inl 1), none, none]) ((hp 12).trans rfl) rfl ?_
  exact H
theorem w_Search_fewest_13 {scr : Nat × (Nat → Int)} {d : Nat} {h : am_H} {Q : Option am_V → am_H → Prop} {x1 x2 x3 : Int} (hs : am_sc scr) (hw : wf h) (H : (180 < x3 → ((0 ≤ (h.2.2.2 30 5) ∧ (h.2.2.2 30 5) < 185) ∧ (Q (some (.inl (h.2.2.2 41 ((h.2.2.2 30 5).toNat)))) h))) ∧ (¬ (180 < x3) → ((x2 = 0 → ((0 ≤ (h.2.2.2 30 5) ∧ (h.2.2.2 30 5) < 185) ∧ (Q (some (.inl (h.2.2.2 41 ((h.2.2.2 30 5).toNat)))) h))) ∧ (¬ (x2 = 0) → ((0 ≤ (h.2.2.2 30 5) ∧ (h.2.2.2 30 5) < 185) ∧ ((¬ ((h.2.2.2 41 ((h.2.2.2 30 5).toNat)) = (-1)) → ((0 ≤ (h.2.2.2 30 5) ∧ (h.2.2.2 30 5) < 185) ∧ (Q (some (.inl (h.2.2.2 41 ((h.2.2.2 30 5).toNat)))) h))) ∧ ((h.2.2.2 41 ((h.2.2.2 30 5).toNat)) = (-1) → (am_R (am_prog scr) (d + 1) f_Search_fewest 45 [some (.inr (.inr ((40 : Nat) : Int))), some (.inl x1), some (.inl 0), some (.inl x3), some (.inl 0), none] [] h Q)))))))) : am_R (am_prog scr) (d + 1) f_Search_fewest 13 [some (.inr (.inr ((40 : Nat) : Int))), some (.inl x1), some (.inl x2), some (.inl x3), none, none] [] h Q := by
  have hp : ∀ k, (am_prog scr).1 f_Search_fewest k = c_Search_fewest k := fun _ => rfl
  refine am_R.next ((hp 13).trans rfl) rfl ?_
  refine am_R.next ((hp 14).trans rfl) rfl ?_
  refine r_ic ((hp 17).trans rfl) (fun c7 => ?_) (fun c7 => ?_)
  · have H := H.1 c7
    refine am_R.next ((hp 119).trans rfl) rfl ?_
    refine r_getR ((hp 120).trans rfl) (hw.o (i := 40) (by decide) rfl) (hw.r wr_40_1) ?_
    refine am_R.next ((hp 123).trans rfl) rfl ?_
    refine r_getR ((hp 124).trans rfl) (hw.o (i := 40) (by decide) rfl) (hw.r wr_40_0) ?_
    refine r_getI ((hp 127).trans rfl) (hw.o (i := 30) (by decide) rfl) ?_
    obtain ⟨c1, H⟩ := H
    refine r_iald ((hp 130).trans rfl) (hw.a (i := 41) (by decide) rfl c1.1 c1.2) ?_
    exact am_R.ret ((hp 131).trans rfl) rfl H
  · have H := H.2 c7
    refine am_R.next ((hp 20).trans rfl) rfl ?_
    refine r_if ((hp 21).trans rfl) (fun c6 => ?_) (fun c6 => ?_)
    · have H := H.1 c6
      refine am_R.next ((hp 119).trans rfl) rfl ?_
      refine r_getR ((hp 120).trans rfl) (hw.o (i := 40) (by decide) rfl) (hw.r wr_40_1) ?_
      refine am_R.next ((hp 123).trans rfl) rfl ?_
      refine r_getR ((hp 124).trans rfl) (hw.o (i := 40) (by decide) rfl) (hw.r wr_40_0) ?_
      refine r_getI ((hp 127).trans rfl) (hw.o (i := 30) (by decide) rfl) ?_
      obtain ⟨c2, H⟩ := H
      refine r_iald ((hp 130).trans rfl) (hw.a (i := 41) (by decide) rfl c2.1 c2.2) ?_
      exact am_R.ret ((hp 131).trans rfl) rfl H
    · have H := H.2 c6
      refine am_R.next ((hp 24).trans rfl) rfl ?_
      refine r_getR ((hp 25).trans rfl) (hw.o (i := 40) (by decide) rfl) (hw.r wr_40_1) ?_
      refine am_R.next ((hp 28).trans rfl) rfl ?_
      refine r_getR ((hp 29).trans rfl) (hw.o (i := 40) (by decide) rfl) (hw.r wr_40_0) ?_
      refine r_getI ((hp 32).trans rfl) (hw.o (i := 30) (by decide) rfl) ?_
      obtain ⟨c3, H⟩ := H
      refine r_iald ((hp 35).trans rfl) (hw.a (i := 41) (by decide) rfl c3.1 c3.2) ?_
      refine am_R.next ((hp 36).trans rfl) rfl ?_
      refine r_ic ((hp 37).trans rfl) (fun c5 => ?_) (fun c5 => ?_)
      · have H := H.1 c5
        refine am_R.next ((hp 119).trans rfl) rfl ?_
        refine r_getR ((hp 120).trans rfl) (hw.o (i := 40) (by decide) rfl) (hw.r wr_40_1) ?_
        refine am_R.next ((hp 123).trans rfl) rfl ?_
        refine r_getR ((hp 124).trans rfl) (hw.o (i := 40) (by decide) rfl) (hw.r wr_40_0) ?_
        refine r_getI ((hp 127).trans rfl) (hw.o (i := 30) (by decide) rfl) ?_
        obtain ⟨c4, H⟩ := H
        refine r_iald ((hp 130).trans rfl) (hw.a (i := 41) (by decide) rfl c4.1 c4.2) ?_
        exact am_R.ret ((hp 131).trans rfl) rfl H
      · have H := H.2 (Decidable.not_not.mp c5)
        refine am_R.next ((hp 40).trans rfl) rfl ?_
        refine am_R.next (lv' := [some (.inr (.inr ((40 : Nat) : Int))), some (.inl x1), some (.inl 0), some (.inl x3), none, none]) ((hp 41).trans rfl) rfl ?_
        refine am_R.next ((hp 42).trans rfl) rfl ?_
        refine am_R.next (lv' := [some (.inr (.inr ((40 : Nat) : Int))), some (.inl x1), some (.inl 0), some (.inl x3), some (.inl 0), none]) ((hp 43).trans rfl) rfl ?_
        exact H
theorem w_Search_fewest_45 {scr : Nat × (Nat → Int)} {d : Nat} {h : am_H} {Q : Option am_V → am_H → Prop} {x1 x2 x3 x4 : Int} (hs : am_sc scr) (hw : wf h) (H : (¬ (x4 < (h.2.2.2 30 7)) → (∀ y1 : Int, y1 = am_w (x3 + 1) → (am_R (am_prog scr) (d + 1) f_Search_fewest 13 [some (.inr (.inr ((40 : Nat) : Int))), some (.inl x1), some (.inl x2), some (.inl y1), none, none] [] h Q))) ∧ (x4 < (h.2.2.2 30 7) → ((0 ≤ x4 ∧ x4 < 180) ∧ (∀ y3 : Int, y3 = h.2.2.2 36 x4.toNat → ((0 ≤ y3 ∧ y3 < 185) ∧ ((¬ ((h.2.2.2 41 y3.toNat) = (-1)) → (∀ y5 : Int, y5 = am_w (x4 + 1) → (am_R (am_prog scr) (d + 1) f_Search_fewest 45 [some (.inr (.inr ((40 : Nat) : Int))), some (.inl x1), some (.inl x2), some (.inl x3), some (.inl y5), none] [] h Q))) ∧ ((h.2.2.2 41 y3.toNat) = (-1) → (am_R (am_prog scr) d f_Search_deedTo 0 [some (.inr (.inr ((40 : Nat) : Int))), some (.inr (.inr ((41 : Nat) : Int))), some (.inl y3), some (.inl (am_w (x3 - 1))), none] [] h (fun v g6 => ∃ r7 : Int, v = some (.inl r7) ∧ wf g6 ∧ ((r7 = (-1) → (∀ y8 : Int, y8 = am_w (x4 + 1) → (am_R (am_prog scr) (d + 1) f_Search_fewest 45 [some (.inr (.inr ((40 : Nat) : Int))), some (.inl x1), some (.inl x2), some (.inl x3), some (.inl y8), none] [] g6 Q))) ∧ (¬ (r7 = (-1)) → (((0 ≤ y3 ∧ y3 < 185)) ∧ (∀ h10 : am_H, h10 = am_put g6 41 y3.toNat x3 → (∀ y11 : Int, y11 = am_w (x4 + 1) → (am_R (am_prog scr) (d + 1) f_Search_fewest 45 [some (.inr (.inr ((40 : Nat) : Int))), some (.inl x1), some (.inl 1), some (.inl x3), some (.inl y11), none] [] h10 Q))))))))))))))) : am_R (am_prog scr) (d + 1) f_Search_fewest 45 [some (.inr (.inr ((40 : Nat) : Int))), some (.inl x1), some (.inl x2), some (.inl x3), some (.inl x4), none] [] h Q := by
  have hp : ∀ k, (am_prog scr).1 f_Search_fewest k = c_Search_fewest k := fun _ => rfl
  refine am_R.next ((hp 45).trans rfl) rfl ?_
  refine am_R.next ((hp 47).trans rfl) rfl ?_
  refine r_getR ((hp 48).trans rfl) (hw.o (i := 40) (by decide) rfl) (hw.r wr_40_0) ?_
  refine r_getI ((hp 51).trans rfl) (hw.o (i := 30) (by decide) rfl) ?_
  refine r_ic ((hp 54).trans rfl) (fun c14 => ?_) (fun c14 => ?_)
  · have H := H.1 c14
    obtain ⟨y1, ey1⟩ : ∃ z : Int, z = am_w (x3 + 1) := ⟨_, rfl⟩
    have H := H y1 ey1
    refine am_R.next (lv' := [some (.inr (.inr ((40 : Nat) : Int))), some (.inl x1), some (.inl x2), some (.inl y1), some (.inl x4), none]) (st' := []) (h' := h) (pc' := 116) ((hp 113).trans rfl) (by rw [ey1]; rfl) ?_
    refine am_R.next ((hp 116).trans rfl) rfl ?_
    exact r_le hs in_242 (le_k (le_k (le_k (le_k (le_d (le_k le_n)))))) H
  · have H := H.2 (Decidable.not_not.mp c14)
    refine am_R.next ((hp 57).trans rfl) rfl ?_
    refine r_getR ((hp 58).trans rfl) (hw.o (i := 40) (by decide) rfl) (hw.r wr_40_0) ?_
    refine r_getR ((hp 61).trans rfl) (hw.o (i := 30) (by decide) rfl) (hw.r wr_30_6) ?_
    refine am_R.next ((hp 64).trans rfl) rfl ?_
    obtain ⟨c2, H⟩ := H
    refine r_iald ((hp 66).trans rfl) (hw.a (i := 36) (by decide) rfl c2.1 c2.2) ?_
    obtain ⟨y3, ey3⟩ : ∃ z : Int, z = h.2.2.2 36 x4.toNat := ⟨_, rfl⟩
    have H := H y3 ey3
    refine am_R.next (lv' := [some (.inr (.inr ((40 : Nat) : Int))), some (.inl x1), some (.inl x2), some (.inl x3), some (.inl x4), some (.inl y3)]) (st' := []) (h' := h) (pc' := 69) ((hp 67).trans rfl) (by rw [ey3]; rfl) ?_
    refine am_R.next ((hp 69).trans rfl) rfl ?_
    refine r_getR ((hp 70).trans rfl) (hw.o (i := 40) (by decide) rfl) (hw.r wr_40_1) ?_
    refine am_R.next ((hp 73).trans rfl) rfl ?_
    obtain ⟨c4, H⟩ := H
    refine r_iald ((hp 75).trans rfl) (hw.a (i := 41) (by decide) rfl c4.1 c4.2) ?_
    refine am_R.next ((hp 76).trans rfl) rfl ?_
    refine r_ic ((hp 77).trans rfl) (fun c13 => ?_) (fun c13 => ?_)
    · have H := H.1 c13
      obtain ⟨y5, ey5⟩ : ∃ z : Int, z = am_w (x4 + 1) := ⟨_, rfl⟩
      have H := H y5 ey5
      refine am_R.next (lv' := [some (.inr (.inr ((40 : Nat) : Int))), some (.inl x1), some (.inl x2), some (.inl x3), some (.inl y5), some (.inl y3)]) (st' := []) (h' := h) (pc' := 110) ((hp 107).trans rfl) (by rw [ey5]; rfl) ?_
      refine am_R.next ((hp 110).trans rfl) rfl ?_
      exact r_le hs in_242 (le_k (le_k (le_k (le_k (le_k (le_d le_n)))))) H
    · have H := H.2 (Decidable.not_not.mp c13)
      refine am_R.next ((hp 80).trans rfl) rfl ?_
      refine am_R.next ((hp 81).trans rfl) rfl ?_
      refine r_getR ((hp 82).trans rfl) (hw.o (i := 40) (by decide) rfl) (hw.r wr_40_1) ?_
      refine am_R.next ((hp 85).trans rfl) rfl ?_
      refine am_R.next ((hp 87).trans rfl) rfl ?_
      refine am_R.next ((hp 88).trans rfl) rfl ?_
      refine am_R.next ((hp 89).trans rfl) rfl ?_
      refine r_cv (bs := [.inr (.inr ((41 : Nat) : Int)), .inl y3, .inl (am_w (x3 - 1))]) (st' := []) ((hp 90).trans rfl) (hw.o (i := 40) (by decide) rfl) rfl rfl (Nat.le_of_ble_eq_true rfl) (Nat.le_of_ble_eq_true rfl) (am_R.post H (fun v g6 hq => ?_))
      obtain ⟨r7, rfl, hw, H⟩ := hq
      change am_R _ _ _ _ _ [.inl r7] _ _
      refine am_R.next ((hp 93).trans rfl) rfl ?_
      refine r_ic ((hp 94).trans rfl) (fun c12 => ?_) (fun c12 => ?_)
      · have H := H.1 c12
        obtain ⟨y8, ey8⟩ : ∃ z : Int, z = am_w (x4 + 1) := ⟨_, rfl⟩
        have H := H y8 ey8
        refine am_R.next (lv' := [some (.inr (.inr ((40 : Nat) : Int))), some (.inl x1), some (.inl x2), some (.inl x3), some (.inl y8), some (.inl y3)]) (st' := []) (h' := g6) (pc' := 110) ((hp 107).trans rfl) (by rw [ey8]; rfl) ?_
        refine am_R.next ((hp 110).trans rfl) rfl ?_
        exact r_le hs in_242 (le_k (le_k (le_k (le_k (le_k (le_d le_n)))))) H
      · have H := H.2 c12
        refine am_R.next ((hp 97).trans rfl) rfl ?_
        refine r_getR ((hp 98).trans rfl) (hw.o (i := 40) (by decide) rfl) (hw.r wr_40_1) ?_
        refine am_R.next ((hp 101).trans rfl) rfl ?_
        refine am_R.next ((hp 103).trans rfl) rfl ?_
        obtain ⟨c9, H⟩ := H
        obtain ⟨h10, eh10⟩ : ∃ z : am_H, z = am_put g6 41 y3.toNat x3 := ⟨_, rfl⟩
        have H := H h10 eh10
        refine r_iast ((hp 104).trans rfl) (hw.a (i := 41) (by decide) rfl c9.1 c9.2) ?_
        have hw : wf h10 := by rw [eh10]; exact hw.pa na_41
        change am_R _ _ _ _ _ _ (am_put g6 41 y3.toNat x3) _
        rw [← eh10]
        refine am_R.next ((hp 105).trans rfl) rfl ?_
        refine am_R.next (lv' := [some (.inr (.inr ((40 : Nat) : Int))), some (.inl x1), some (.inl 1), some (.inl x3), some (.inl x4), some (.inl y3)]) ((hp 106).trans rfl) rfl ?_
        obtain ⟨y11, ey11⟩ : ∃ z : Int, z = am_w (x4 + 1) := ⟨_, rfl⟩
        have H := H y11 ey11
        refine am_R.next (lv' := [some (.inr (.inr ((40 : Nat) : Int))), some (.inl x1), some (.inl 1), some (.inl x3), some (.inl y11), some (.inl y3)]) (st' := []) (h' := h10) (pc' := 110) ((hp 107).trans rfl) (by rw [ey11]; rfl) ?_
        refine am_R.next ((hp 110).trans rfl) rfl ?_
        exact r_le hs in_242 (le_k (le_k (le_k (le_k (le_k (le_d le_n)))))) H
theorem w_Search_deedTo_0 {scr : Nat × (Nat → Int)} {d : Nat} {h : am_H} {Q : Option am_V → am_H → Prop} {x2 x3 a1 : Int} (hs : am_sc scr) (hw : wf h) (H : am_R (am_prog scr) (d + 1) f_Search_deedTo 3 [some (.inr (.inr ((40 : Nat) : Int))), some (.inr (.inr a1)), some (.inl x2), some (.inl x3), some (.inl 0)] [] h Q) : am_R (am_prog scr) (d + 1) f_Search_deedTo 0 [some (.inr (.inr ((40 : Nat) : Int))), some (.inr (.inr a1)), some (.inl x2), some (.inl x3), none] [] h Q := by
  have hp : ∀ k, (am_prog scr).1 f_Search_deedTo k = c_Search_deedTo k := fun _ => rfl
  refine am_R.next ((hp 0).trans rfl) rfl ?_
  refine am_R.next (lv' := [some (.inr (.inr ((40 : Nat) : Int))), some (.inr (.inr a1)), some (.inl x2), some (.inl x3), some (.inl 0)]) ((hp 1).trans rfl) rfl ?_
  exact H
theorem w_Search_deedTo_3 {scr : Nat × (Nat → Int)} {d : Nat} {h : am_H} {Q : Option am_V → am_H → Prop} {x2 x3 x4 a1 : Int} (hs : am_sc scr) (hw : wf h) (H : am_R (am_prog scr) d f_Graph_sleepers 0 [some (.inr (.inr ((30 : Nat) : Int)))] [] h (fun v g1 => ∃ r2 : Int, v = some (.inl r2) ∧ wf g1 ∧ ((r2 < x4 → (Q (some (.inl (-1))) g1)) ∧ (¬ (r2 < x4) → (am_R (am_prog scr) d f_Graph_after 0 [some (.inr (.inr ((30 : Nat) : Int))), some (.inl x2), some (.inl x4), none] [] g1 (fun v g3 => ∃ r4 : Int, v = some (.inl r4) ∧ wf g3 ∧ (am_inA g3 a1 1 r4 ∧ ((¬ ((g3.2.2.2 a1.toNat r4.toNat) = x3) → (∀ y6 : Int, y6 = am_w (x4 + 1) → (am_R (am_prog scr) (d + 1) f_Search_deedTo 3 [some (.inr (.inr ((40 : Nat) : Int))), some (.inr (.inr a1)), some (.inl x2), some (.inl x3), some (.inl y6)] [] g3 Q))) ∧ ((g3.2.2.2 a1.toNat r4.toNat) = x3 → (Q (some (.inl x4)) g3)))))))))) : am_R (am_prog scr) (d + 1) f_Search_deedTo 3 [some (.inr (.inr ((40 : Nat) : Int))), some (.inr (.inr a1)), some (.inl x2), some (.inl x3), some (.inl x4)] [] h Q := by
  have hp : ∀ k, (am_prog scr).1 f_Search_deedTo k = c_Search_deedTo k := fun _ => rfl
  refine am_R.next ((hp 3).trans rfl) rfl ?_
  refine am_R.next ((hp 5).trans rfl) rfl ?_
  refine r_getR ((hp 6).trans rfl) (hw.o (i := 40) (by decide) rfl) (hw.r wr_40_0) ?_
  refine r_cv (bs := []) (st' := [.inl x4]) ((hp 9).trans rfl) (hw.o (i := 30) (by decide) rfl) rfl rfl (Nat.le_of_ble_eq_true rfl) (Nat.le_of_ble_eq_true rfl) (am_R.post H (fun v g1 hq => ?_))
  obtain ⟨r2, rfl, hw, H⟩ := hq
  change am_R _ _ _ _ _ [.inl r2, .inl x4] _ _
  refine r_ic ((hp 12).trans rfl) (fun c8 => ?_) (fun c8 => ?_)
  · have H := H.1 c8
    refine am_R.next ((hp 40).trans rfl) rfl ?_
    exact am_R.ret ((hp 41).trans rfl) rfl H
  · have H := H.2 c8
    refine am_R.next ((hp 15).trans rfl) rfl ?_
    refine am_R.next ((hp 16).trans rfl) rfl ?_
    refine r_getR ((hp 17).trans rfl) (hw.o (i := 40) (by decide) rfl) (hw.r wr_40_0) ?_
    refine am_R.next ((hp 20).trans rfl) rfl ?_
    refine am_R.next ((hp 21).trans rfl) rfl ?_
    refine r_cv (bs := [.inl x2, .inl x4]) (st' := [.inr (.inr a1)]) ((hp 23).trans rfl) (hw.o (i := 30) (by decide) rfl) rfl rfl (Nat.le_of_ble_eq_true rfl) (Nat.le_of_ble_eq_true rfl) (am_R.post H (fun v g3 hq => ?_))
    obtain ⟨r4, rfl, hw, H⟩ := hq
    change am_R _ _ _ _ _ [.inl r4, .inr (.inr a1)] _ _
    obtain ⟨c5, H⟩ := H
    refine r_iald ((hp 26).trans rfl) c5 ?_
    refine am_R.next ((hp 27).trans rfl) rfl ?_
    refine r_ic ((hp 28).trans rfl) (fun c7 => ?_) (fun c7 => ?_)
    · have H := H.1 c7
      obtain ⟨y6, ey6⟩ : ∃ z : Int, z = am_w (x4 + 1) := ⟨_, rfl⟩
      have H := H y6 ey6
      refine am_R.next (lv' := [some (.inr (.inr ((40 : Nat) : Int))), some (.inr (.inr a1)), some (.inl x2), some (.inl x3), some (.inl y6)]) (st' := []) (h' := g3) (pc' := 37) ((hp 34).trans rfl) (by rw [ey6]; rfl) ?_
      refine am_R.next ((hp 37).trans rfl) rfl ?_
      exact H
    · have H := H.2 (Decidable.not_not.mp c7)
      refine am_R.next ((hp 31).trans rfl) rfl ?_
      exact am_R.ret ((hp 33).trans rfl) rfl H
theorem w_Search_fewestDeed_0 {scr : Nat × (Nat → Int)} {d : Nat} {h : am_H} {Q : Option am_V → am_H → Prop} {x1 x2 : Int} (hs : am_sc scr) (hw : wf h) (H : am_R (am_prog scr) d f_Search_fewest 0 [some (.inr (.inr ((40 : Nat) : Int))), some (.inl x1), none, none, none, none] [] h (fun v g1 => ∃ r2 : Int, v = some (.inl r2) ∧ wf g1 ∧ ((¬ (x2 < r2) → (Q (some (.inl (-1))) g1)) ∧ (x2 < r2 → (am_R (am_prog scr) d f_Search_deedDownwards 0 [some (.inr (.inr ((40 : Nat) : Int))), some (.inl x2), none, none] [] g1 (fun v g3 => ∃ r4 : Int, v = some (.inl r4) ∧ wf g3 ∧ (Q (some (.inl r4)) g3))))))) : am_R (am_prog scr) (d + 1) f_Search_fewestDeed 0 [some (.inr (.inr ((40 : Nat) : Int))), some (.inl x1), some (.inl x2), none] [] h Q := by
  have hp : ∀ k, (am_prog scr).1 f_Search_fewestDeed k = c_Search_fewestDeed k := fun _ => rfl
  refine am_R.next ((hp 0).trans rfl) rfl ?_
  refine am_R.next ((hp 1).trans rfl) rfl ?_
  refine r_cv (bs := [.inl x1]) (st' := []) ((hp 2).trans rfl) (hw.o (i := 40) (by decide) rfl) rfl rfl (Nat.le_of_ble_eq_true rfl) (Nat.le_of_ble_eq_true rfl) (am_R.post H (fun v g1 hq => ?_))
  obtain ⟨r2, rfl, hw, H⟩ := hq
  change am_R _ _ _ _ _ [.inl r2] _ _
  refine am_R.next (lv' := [some (.inr (.inr ((40 : Nat) : Int))), some (.inl x1), some (.inl x2), some (.inl r2)]) ((hp 5).trans rfl) rfl ?_
  refine am_R.next ((hp 6).trans rfl) rfl ?_
  refine am_R.next ((hp 7).trans rfl) rfl ?_
  refine r_ic ((hp 8).trans rfl) (fun c5 => ?_) (fun c5 => ?_)
  · have H := H.1 c5
    refine am_R.next ((hp 19).trans rfl) rfl ?_
    exact am_R.ret ((hp 20).trans rfl) rfl H
  · have H := H.2 (Decidable.not_not.mp c5)
    refine am_R.next ((hp 11).trans rfl) rfl ?_
    refine am_R.next ((hp 12).trans rfl) rfl ?_
    refine r_cv (bs := [.inl x2]) (st' := []) ((hp 13).trans rfl) (hw.o (i := 40) (by decide) rfl) rfl rfl (Nat.le_of_ble_eq_true rfl) (Nat.le_of_ble_eq_true rfl) (am_R.post H (fun v g3 hq => ?_))
    obtain ⟨r4, rfl, hw, H⟩ := hq
    change am_R _ _ _ _ _ [.inl r4] _ _
    refine am_R.next ((hp 16).trans rfl) rfl ?_
    exact am_R.ret ((hp 20).trans rfl) rfl H
theorem w_Search_deedDownwards_0 {scr : Nat × (Nat → Int)} {d : Nat} {h : am_H} {Q : Option am_V → am_H → Prop} {x1 : Int} (hs : am_sc scr) (hw : wf h) (H : ∀ y1 : Int, y1 = h.2.2.2 30 5 → (am_R (am_prog scr) (d + 1) f_Search_deedDownwards 10 [some (.inr (.inr ((40 : Nat) : Int))), some (.inl x1), some (.inl y1), some (.inl 0)] [] h Q)) : am_R (am_prog scr) (d + 1) f_Search_deedDownwards 0 [some (.inr (.inr ((40 : Nat) : Int))), some (.inl x1), none, none] [] h Q := by
  have hp : ∀ k, (am_prog scr).1 f_Search_deedDownwards k = c_Search_deedDownwards k := fun _ => rfl
  refine am_R.next ((hp 0).trans rfl) rfl ?_
  refine r_getR ((hp 1).trans rfl) (hw.o (i := 40) (by decide) rfl) (hw.r wr_40_0) ?_
  refine r_getI ((hp 4).trans rfl) (hw.o (i := 30) (by decide) rfl) ?_
  obtain ⟨y1, ey1⟩ : ∃ z : Int, z = h.2.2.2 30 5 := ⟨_, rfl⟩
  have H := H y1 ey1
  refine am_R.next (lv' := [some (.inr (.inr ((40 : Nat) : Int))), some (.inl x1), some (.inl y1), none]) (st' := []) (h' := h) (pc' := 8) ((hp 7).trans rfl) (by rw [ey1]; rfl) ?_
  refine am_R.next ((hp 8).trans rfl) rfl ?_
  refine am_R.next (lv' := [some (.inr (.inr ((40 : Nat) : Int))), some (.inl x1), some (.inl y1), some (.inl 0)]) ((hp 9).trans rfl) rfl ?_
  exact H
theorem w_Search_deedDownwards_10 {scr : Nat × (Nat → Int)} {d : Nat} {h : am_H} {Q : Option am_V → am_H → Prop} {x1 x2 x3 : Int} (hs : am_sc scr) (hw : wf h) (H : (¬ (x3 < x1) → (am_R (am_prog scr) (d + 1) f_Search_deedDownwards 60 [some (.inr (.inr ((40 : Nat) : Int))), some (.inl x1), some (.inl x2), some (.inl x3)] [] h Q)) ∧ (x3 < x1 → ((0 ≤ x2 ∧ x2 < 185) ∧ (((h.2.2.2 41 x2.toNat) ≤ 0 → (am_R (am_prog scr) (d + 1) f_Search_deedDownwards 60 [some (.inr (.inr ((40 : Nat) : Int))), some (.inl x1), some (.inl x2), some (.inl x3)] [] h Q)) ∧ (¬ ((h.2.2.2 41 x2.toNat) ≤ 0) → ((0 ≤ x2 ∧ x2 < 185) ∧ (am_R (am_prog scr) d f_Search_deedTo 0 [some (.inr (.inr ((40 : Nat) : Int))), some (.inr (.inr ((41 : Nat) : Int))), some (.inl x2), some (.inl (am_w ((h.2.2.2 41 x2.toNat) - 1))), none] [] h (fun v g3 => ∃ r4 : Int, v = some (.inl r4) ∧ wf g3 ∧ (am_R (am_prog scr) d f_jM_max 0 [some (.inl 0), some (.inl r4)] [] g3 (fun v g5 => ∃ r6 : Int, v = some (.inl r6) ∧ wf g5 ∧ (am_R (am_prog scr) d f_Graph_after 0 [some (.inr (.inr ((30 : Nat) : Int))), some (.inl x2), some (.inl r6), none] [] g5 (fun v g7 => ∃ r8 : Int, v = some (.inl r8) ∧ wf g7 ∧ (∀ y9 : Int, y9 = am_w (x3 + 1) → (am_R (am_prog scr) (d + 1) f_Search_deedDownwards 10 [some (.inr (.inr ((40 : Nat) : Int))), some (.inl x1), some (.inl r8), some (.inl y9)] [] g7 Q)))))))))))))) : am_R (am_prog scr) (d + 1) f_Search_deedDownwards 10 [some (.inr (.inr ((40 : Nat) : Int))), some (.inl x1), some (.inl x2), some (.inl x3)] [] h Q := by
  have hp : ∀ k, (am_prog scr).1 f_Search_deedDownwards k = c_Search_deedDownwards k := fun _ => rfl
  refine am_R.next ((hp 10).trans rfl) rfl ?_
  refine am_R.next ((hp 11).trans rfl) rfl ?_
  refine r_ic ((hp 12).trans rfl) (fun c11 => ?_) (fun c11 => ?_)
  · have H := H.1 c11
    exact H
  · have H := H.2 (Decidable.not_not.mp c11)
    refine am_R.next ((hp 15).trans rfl) rfl ?_
    refine r_getR ((hp 16).trans rfl) (hw.o (i := 40) (by decide) rfl) (hw.r wr_40_1) ?_
    refine am_R.next ((hp 19).trans rfl) rfl ?_
    obtain ⟨c1, H⟩ := H
    refine r_iald ((hp 20).trans rfl) (hw.a (i := 41) (by decide) rfl c1.1 c1.2) ?_
    refine r_if ((hp 21).trans rfl) (fun c10 => ?_) (fun c10 => ?_)
    · have H := H.1 c10
      exact H
    · have H := H.2 c10
      refine am_R.next ((hp 24).trans rfl) rfl ?_
      refine r_getR ((hp 25).trans rfl) (hw.o (i := 40) (by decide) rfl) (hw.r wr_40_0) ?_
      refine am_R.next ((hp 28).trans rfl) rfl ?_
      refine am_R.next ((hp 29).trans rfl) rfl ?_
      refine am_R.next ((hp 30).trans rfl) rfl ?_
      refine am_R.next ((hp 31).trans rfl) rfl ?_
      refine r_getR ((hp 32).trans rfl) (hw.o (i := 40) (by decide) rfl) (hw.r wr_40_1) ?_
      refine am_R.next ((hp 35).trans rfl) rfl ?_
      refine am_R.next ((hp 36).trans rfl) rfl ?_
      refine r_getR ((hp 37).trans rfl) (hw.o (i := 40) (by decide) rfl) (hw.r wr_40_1) ?_
      refine am_R.next ((hp 40).trans rfl) rfl ?_
      obtain ⟨c2, H⟩ := H
      refine r_iald ((hp 41).trans rfl) (hw.a (i := 41) (by decide) rfl c2.1 c2.2) ?_
      refine am_R.next ((hp 42).trans rfl) rfl ?_
      refine am_R.next ((hp 43).trans rfl) rfl ?_
      refine r_cv (bs := [.inr (.inr ((41 : Nat) : Int)), .inl x2, .inl (am_w ((h.2.2.2 41 x2.toNat) - 1))]) (st' := [.inl 0, .inl x2, .inr (.inr ((30 : Nat) : Int))]) ((hp 44).trans rfl) (hw.o (i := 40) (by decide) rfl) rfl rfl (Nat.le_of_ble_eq_true rfl) (Nat.le_of_ble_eq_true rfl) (am_R.post H (fun v g3 hq => ?_))
      obtain ⟨r4, rfl, hw, H⟩ := hq
      change am_R _ _ _ _ _ [.inl r4, .inl 0, .inl x2, .inr (.inr ((30 : Nat) : Int))] _ _
      refine r_cs (as := [.inl 0, .inl r4]) (st' := [.inl x2, .inr (.inr ((30 : Nat) : Int))]) ((hp 47).trans rfl) rfl rfl (Nat.le_of_ble_eq_true rfl) (Nat.le_of_ble_eq_true rfl) (am_R.post H (fun v g5 hq => ?_))
      obtain ⟨r6, rfl, hw, H⟩ := hq
      change am_R _ _ _ _ _ [.inl r6, .inl x2, .inr (.inr ((30 : Nat) : Int))] _ _
      refine r_cv (bs := [.inl x2, .inl r6]) (st' := []) ((hp 50).trans rfl) (hw.o (i := 30) (by decide) rfl) rfl rfl (Nat.le_of_ble_eq_true rfl) (Nat.le_of_ble_eq_true rfl) (am_R.post H (fun v g7 hq => ?_))
      obtain ⟨r8, rfl, hw, H⟩ := hq
      change am_R _ _ _ _ _ [.inl r8] _ _
      refine am_R.next (lv' := [some (.inr (.inr ((40 : Nat) : Int))), some (.inl x1), some (.inl r8), some (.inl x3)]) ((hp 53).trans rfl) rfl ?_
      obtain ⟨y9, ey9⟩ : ∃ z : Int, z = am_w (x3 + 1) := ⟨_, rfl⟩
      have H := H y9 ey9
      refine am_R.next (lv' := [some (.inr (.inr ((40 : Nat) : Int))), some (.inl x1), some (.inl r8), some (.inl y9)]) (st' := []) (h' := g7) (pc' := 57) ((hp 54).trans rfl) (by rw [ey9]; rfl) ?_
      refine am_R.next ((hp 57).trans rfl) rfl ?_
      exact H
theorem w_Search_deedDownwards_60 {scr : Nat × (Nat → Int)} {d : Nat} {h : am_H} {Q : Option am_V → am_H → Prop} {x1 x2 x3 : Int} (hs : am_sc scr) (hw : wf h) (H : (0 ≤ x2 ∧ x2 < 185) ∧ (((h.2.2.2 41 x2.toNat) ≤ 0 → (Q (some (.inl (-1))) h)) ∧ (¬ ((h.2.2.2 41 x2.toNat) ≤ 0) → ((0 ≤ x2 ∧ x2 < 185) ∧ (am_R (am_prog scr) d f_Search_deedTo 0 [some (.inr (.inr ((40 : Nat) : Int))), some (.inr (.inr ((41 : Nat) : Int))), some (.inl x2), some (.inl (am_w ((h.2.2.2 41 x2.toNat) - 1))), none] [] h (fun v g3 => ∃ r4 : Int, v = some (.inl r4) ∧ wf g3 ∧ (Q (some (.inl r4)) g3))))))) : am_R (am_prog scr) (d + 1) f_Search_deedDownwards 60 [some (.inr (.inr ((40 : Nat) : Int))), some (.inl x1), some (.inl x2), some (.inl x3)] [] h Q := by
  have hp : ∀ k, (am_prog scr).1 f_Search_deedDownwards k = c_Search_deedDownwards k := fun _ => rfl
  refine am_R.next ((hp 60).trans rfl) rfl ?_
  refine r_getR ((hp 61).trans rfl) (hw.o (i := 40) (by decide) rfl) (hw.r wr_40_1) ?_
  refine am_R.next ((hp 64).trans rfl) rfl ?_
  obtain ⟨c1, H⟩ := H
  refine r_iald ((hp 65).trans rfl) (hw.a (i := 41) (by decide) rfl c1.1 c1.2) ?_
  refine r_if ((hp 66).trans rfl) (fun c5 => ?_) (fun c5 => ?_)
  · have H := H.1 c5
    refine am_R.next ((hp 89).trans rfl) rfl ?_
    exact am_R.ret ((hp 90).trans rfl) rfl H
  · have H := H.2 c5
    refine am_R.next ((hp 69).trans rfl) rfl ?_
    refine am_R.next ((hp 70).trans rfl) rfl ?_
    refine r_getR ((hp 71).trans rfl) (hw.o (i := 40) (by decide) rfl) (hw.r wr_40_1) ?_
    refine am_R.next ((hp 74).trans rfl) rfl ?_
    refine am_R.next ((hp 75).trans rfl) rfl ?_
    refine r_getR ((hp 76).trans rfl) (hw.o (i := 40) (by decide) rfl) (hw.r wr_40_1) ?_
    refine am_R.next ((hp 79).trans rfl) rfl ?_
    obtain ⟨c2, H⟩ := H
    refine r_iald ((hp 80).trans rfl) (hw.a (i := 41) (by decide) rfl c2.1 c2.2) ?_
    refine am_R.next ((hp 81).trans rfl) rfl ?_
    refine am_R.next ((hp 82).trans rfl) rfl ?_
    refine r_cv (bs := [.inr (.inr ((41 : Nat) : Int)), .inl x2, .inl (am_w ((h.2.2.2 41 x2.toNat) - 1))]) (st' := []) ((hp 83).trans rfl) (hw.o (i := 40) (by decide) rfl) rfl rfl (Nat.le_of_ble_eq_true rfl) (Nat.le_of_ble_eq_true rfl) (am_R.post H (fun v g3 hq => ?_))
    obtain ⟨r4, rfl, hw, H⟩ := hq
    change am_R _ _ _ _ _ [.inl r4] _ _
    refine am_R.next ((hp 86).trans rfl) rfl ?_
    exact am_R.ret ((hp 90).trans rfl) rfl H
theorem w_Search_longest_0 {scr : Nat × (Nat → Int)} {d : Nat} {h : am_H} {Q : Option am_V → am_H → Prop} (hs : am_sc scr) (hw : wf h) (H : am_R (am_prog scr) d f_jA_fill2 0 [some (.inr (.inr ((41 : Nat) : Int))), some (.inl (-1)), none, none] [] h (fun v g1 => v = none ∧ wf g1 ∧ (am_R (am_prog scr) (d + 1) f_Search_longest 12 [some (.inr (.inr ((40 : Nat) : Int))), some (.inl 1), some (.inl 0), none, none] [] g1 Q))) : am_R (am_prog scr) (d + 1) f_Search_longest 0 [some (.inr (.inr ((40 : Nat) : Int))), none, none, none, none] [] h Q := by
  have hp : ∀ k, (am_prog scr).1 f_Search_longest k = c_Search_longest k := fun _ => rfl
  refine am_R.next ((hp 0).trans rfl) rfl ?_
  refine r_getR ((hp 1).trans rfl) (hw.o (i := 40) (by decide) rfl) (hw.r wr_40_1) ?_
  refine am_R.next ((hp 4).trans rfl) rfl ?_
  refine r_cs (as := [.inr (.inr ((41 : Nat) : Int)), .inl (-1)]) (st' := []) ((hp 5).trans rfl) rfl rfl (Nat.le_of_ble_eq_true rfl) (Nat.le_of_ble_eq_true rfl) (am_R.post H (fun v g1 hq => ?_))
  obtain ⟨rfl, hw, H⟩ := hq
  change am_R _ _ _ _ _ [] _ _
  refine am_R.next ((hp 8).trans rfl) rfl ?_
  refine am_R.next (lv' := [some (.inr (.inr ((40 : Nat) : Int))), some (.inl 1), none, none, none]) ((hp 9).trans rfl) rfl ?_
  refine am_R.next ((hp 10).trans rfl) rfl ?_
  refine am_R.next (lv' := [some (.inr (.inr ((40 : Nat) : Int))), some (.inl 1), some (.inl 0), none, none]) ((hp 11).trans rfl) rfl ?_
  exact H
theorem w_Search_longest_12 {scr : Nat × (Nat → Int)} {d : Nat} {h : am_H} {Q : Option am_V → am_H → Prop} {x1 x2 : Int} (hs : am_sc scr) (hw : wf h) (H : (¬ (x2 < 180) → ((0 ≤ (h.2.2.2 30 5) ∧ (h.2.2.2 30 5) < 185) ∧ (Q (some (.inl (h.2.2.2 41 ((h.2.2.2 30 5).toNat)))) h))) ∧ (x2 < 180 → ((x1 = 0 → ((0 ≤ (h.2.2.2 30 5) ∧ (h.2.2.2 30 5) < 185) ∧ (Q (some (.inl (h.2.2.2 41 ((h.2.2.2 30 5).toNat)))) h))) ∧ (¬ (x1 = 0) → (am_R (am_prog scr) (d + 1) f_Search_longest 27 [some (.inr (.inr ((40 : Nat) : Int))), some (.inl 0), some (.inl x2), some (.inl 0), none] [] h Q))))) : am_R (am_prog scr) (d + 1) f_Search_longest 12 [some (.inr (.inr ((40 : Nat) : Int))), some (.inl x1), some (.inl x2), none, none] [] h Q := by
  have hp : ∀ k, (am_prog scr).1 f_Search_longest k = c_Search_longest k := fun _ => rfl
  refine am_R.next ((hp 12).trans rfl) rfl ?_
  refine am_R.next ((hp 13).trans rfl) rfl ?_
  refine r_ic ((hp 16).trans rfl) (fun c4 => ?_) (fun c4 => ?_)
  · have H := H.1 c4
    refine am_R.next ((hp 92).trans rfl) rfl ?_
    refine r_getR ((hp 93).trans rfl) (hw.o (i := 40) (by decide) rfl) (hw.r wr_40_1) ?_
    refine am_R.next ((hp 96).trans rfl) rfl ?_
    refine r_getR ((hp 97).trans rfl) (hw.o (i := 40) (by decide) rfl) (hw.r wr_40_0) ?_
    refine r_getI ((hp 100).trans rfl) (hw.o (i := 30) (by decide) rfl) ?_
    obtain ⟨c1, H⟩ := H
    refine r_iald ((hp 103).trans rfl) (hw.a (i := 41) (by decide) rfl c1.1 c1.2) ?_
    exact am_R.ret ((hp 104).trans rfl) rfl H
  · have H := H.2 (Decidable.not_not.mp c4)
    refine am_R.next ((hp 19).trans rfl) rfl ?_
    refine r_if ((hp 20).trans rfl) (fun c3 => ?_) (fun c3 => ?_)
    · have H := H.1 c3
      refine am_R.next ((hp 92).trans rfl) rfl ?_
      refine r_getR ((hp 93).trans rfl) (hw.o (i := 40) (by decide) rfl) (hw.r wr_40_1) ?_
      refine am_R.next ((hp 96).trans rfl) rfl ?_
      refine r_getR ((hp 97).trans rfl) (hw.o (i := 40) (by decide) rfl) (hw.r wr_40_0) ?_
      refine r_getI ((hp 100).trans rfl) (hw.o (i := 30) (by decide) rfl) ?_
      obtain ⟨c2, H⟩ := H
      refine r_iald ((hp 103).trans rfl) (hw.a (i := 41) (by decide) rfl c2.1 c2.2) ?_
      exact am_R.ret ((hp 104).trans rfl) rfl H
    · have H := H.2 c3
      refine am_R.next ((hp 23).trans rfl) rfl ?_
      refine am_R.next (lv' := [some (.inr (.inr ((40 : Nat) : Int))), some (.inl 0), some (.inl x2), none, none]) ((hp 24).trans rfl) rfl ?_
      refine am_R.next ((hp 25).trans rfl) rfl ?_
      refine am_R.next (lv' := [some (.inr (.inr ((40 : Nat) : Int))), some (.inl 0), some (.inl x2), some (.inl 0), none]) ((hp 26).trans rfl) rfl ?_
      exact H
theorem w_Search_longest_27 {scr : Nat × (Nat → Int)} {d : Nat} {h : am_H} {Q : Option am_V → am_H → Prop} {x1 x2 x3 : Int} (hs : am_sc scr) (hw : wf h) (H : (¬ (x3 < (h.2.2.2 30 7)) → (∀ y1 : Int, y1 = am_w (x2 + 1) → (am_R (am_prog scr) (d + 1) f_Search_longest 12 [some (.inr (.inr ((40 : Nat) : Int))), some (.inl x1), some (.inl y1), none, none] [] h Q))) ∧ (x3 < (h.2.2.2 30 7) → ((0 ≤ x3 ∧ x3 < 180) ∧ (∀ y3 : Int, y3 = h.2.2.2 36 x3.toNat → ((0 ≤ y3 ∧ y3 < 185) ∧ ((¬ ((h.2.2.2 41 y3.toNat) = (-1)) → (∀ y5 : Int, y5 = am_w (x3 + 1) → (am_R (am_prog scr) (d + 1) f_Search_longest 27 [some (.inr (.inr ((40 : Nat) : Int))), some (.inl x1), some (.inl x2), some (.inl y5), none] [] h Q))) ∧ ((h.2.2.2 41 y3.toNat) = (-1) → (am_R (am_prog scr) d f_Search_isBoundBelow 0 [some (.inr (.inr ((40 : Nat) : Int))), some (.inl y3), some (.inl x2), none, none] [] h (fun v g6 => ∃ r7 : Int, v = some (.inl r7) ∧ wf g6 ∧ ((r7 = 0 → (∀ y8 : Int, y8 = am_w (x3 + 1) → (am_R (am_prog scr) (d + 1) f_Search_longest 27 [some (.inr (.inr ((40 : Nat) : Int))), some (.inl x1), some (.inl x2), some (.inl y8), none] [] g6 Q))) ∧ (¬ (r7 = 0) → (((0 ≤ y3 ∧ y3 < 185)) ∧ (∀ h10 : am_H, h10 = am_put g6 41 y3.toNat x2 → (∀ y11 : Int, y11 = am_w (x3 + 1) → (am_R (am_prog scr) (d + 1) f_Search_longest 27 [some (.inr (.inr ((40 : Nat) : Int))), some (.inl 1), some (.inl x2), some (.inl y11), none] [] h10 Q))))))))))))))) : am_R (am_prog scr) (d + 1) f_Search_longest 27 [some (.inr (.inr ((40 : Nat) : Int))), some (.inl x1), some (.inl x2), some (.inl x3), none] [] h Q := by
  have hp : ∀ k, (am_prog scr).1 f_Search_longest k = c_Search_longest k := fun _ => rfl
  refine am_R.next ((hp 27).trans rfl) rfl ?_
  refine am_R.next ((hp 28).trans rfl) rfl ?_
  refine r_getR ((hp 29).trans rfl) (hw.o (i := 40) (by decide) rfl) (hw.r wr_40_0) ?_
  refine r_getI ((hp 32).trans rfl) (hw.o (i := 30) (by decide) rfl) ?_
  refine r_ic ((hp 35).trans rfl) (fun c14 => ?_) (fun c14 => ?_)
  · have H := H.1 c14
    obtain ⟨y1, ey1⟩ : ∃ z : Int, z = am_w (x2 + 1) := ⟨_, rfl⟩
    have H := H y1 ey1
    refine am_R.next (lv' := [some (.inr (.inr ((40 : Nat) : Int))), some (.inl x1), some (.inl y1), some (.inl x3), none]) (st' := []) (h' := h) (pc' := 89) ((hp 86).trans rfl) (by rw [ey1]; rfl) ?_
    refine am_R.next ((hp 89).trans rfl) rfl ?_
    exact r_le hs in_246 (le_k (le_k (le_k (le_d (le_k le_n))))) H
  · have H := H.2 (Decidable.not_not.mp c14)
    refine am_R.next ((hp 38).trans rfl) rfl ?_
    refine r_getR ((hp 39).trans rfl) (hw.o (i := 40) (by decide) rfl) (hw.r wr_40_0) ?_
    refine r_getR ((hp 42).trans rfl) (hw.o (i := 30) (by decide) rfl) (hw.r wr_30_6) ?_
    refine am_R.next ((hp 45).trans rfl) rfl ?_
    obtain ⟨c2, H⟩ := H
    refine r_iald ((hp 46).trans rfl) (hw.a (i := 36) (by decide) rfl c2.1 c2.2) ?_
    obtain ⟨y3, ey3⟩ : ∃ z : Int, z = h.2.2.2 36 x3.toNat := ⟨_, rfl⟩
    have H := H y3 ey3
    refine am_R.next (lv' := [some (.inr (.inr ((40 : Nat) : Int))), some (.inl x1), some (.inl x2), some (.inl x3), some (.inl y3)]) (st' := []) (h' := h) (pc' := 49) ((hp 47).trans rfl) (by rw [ey3]; rfl) ?_
    refine am_R.next ((hp 49).trans rfl) rfl ?_
    refine r_getR ((hp 50).trans rfl) (hw.o (i := 40) (by decide) rfl) (hw.r wr_40_1) ?_
    refine am_R.next ((hp 53).trans rfl) rfl ?_
    obtain ⟨c4, H⟩ := H
    refine r_iald ((hp 55).trans rfl) (hw.a (i := 41) (by decide) rfl c4.1 c4.2) ?_
    refine am_R.next ((hp 56).trans rfl) rfl ?_
    refine r_ic ((hp 57).trans rfl) (fun c13 => ?_) (fun c13 => ?_)
    · have H := H.1 c13
      obtain ⟨y5, ey5⟩ : ∃ z : Int, z = am_w (x3 + 1) := ⟨_, rfl⟩
      have H := H y5 ey5
      refine am_R.next (lv' := [some (.inr (.inr ((40 : Nat) : Int))), some (.inl x1), some (.inl x2), some (.inl y5), some (.inl y3)]) (st' := []) (h' := h) (pc' := 83) ((hp 80).trans rfl) (by rw [ey5]; rfl) ?_
      refine am_R.next ((hp 83).trans rfl) rfl ?_
      exact r_le hs in_246 (le_k (le_k (le_k (le_k (le_d le_n))))) H
    · have H := H.2 (Decidable.not_not.mp c13)
      refine am_R.next ((hp 60).trans rfl) rfl ?_
      refine am_R.next ((hp 61).trans rfl) rfl ?_
      refine am_R.next ((hp 63).trans rfl) rfl ?_
      refine r_cv (bs := [.inl y3, .inl x2]) (st' := []) ((hp 64).trans rfl) (hw.o (i := 40) (by decide) rfl) rfl rfl (Nat.le_of_ble_eq_true rfl) (Nat.le_of_ble_eq_true rfl) (am_R.post H (fun v g6 hq => ?_))
      obtain ⟨r7, rfl, hw, H⟩ := hq
      change am_R _ _ _ _ _ [.inl r7] _ _
      refine r_if ((hp 67).trans rfl) (fun c12 => ?_) (fun c12 => ?_)
      · have H := H.1 c12
        obtain ⟨y8, ey8⟩ : ∃ z : Int, z = am_w (x3 + 1) := ⟨_, rfl⟩
        have H := H y8 ey8
        refine am_R.next (lv' := [some (.inr (.inr ((40 : Nat) : Int))), some (.inl x1), some (.inl x2), some (.inl y8), some (.inl y3)]) (st' := []) (h' := g6) (pc' := 83) ((hp 80).trans rfl) (by rw [ey8]; rfl) ?_
        refine am_R.next ((hp 83).trans rfl) rfl ?_
        exact r_le hs in_246 (le_k (le_k (le_k (le_k (le_d le_n))))) H
      · have H := H.2 c12
        refine am_R.next ((hp 70).trans rfl) rfl ?_
        refine r_getR ((hp 71).trans rfl) (hw.o (i := 40) (by decide) rfl) (hw.r wr_40_1) ?_
        refine am_R.next ((hp 74).trans rfl) rfl ?_
        refine am_R.next ((hp 76).trans rfl) rfl ?_
        obtain ⟨c9, H⟩ := H
        obtain ⟨h10, eh10⟩ : ∃ z : am_H, z = am_put g6 41 y3.toNat x2 := ⟨_, rfl⟩
        have H := H h10 eh10
        refine r_iast ((hp 77).trans rfl) (hw.a (i := 41) (by decide) rfl c9.1 c9.2) ?_
        have hw : wf h10 := by rw [eh10]; exact hw.pa na_41
        change am_R _ _ _ _ _ _ (am_put g6 41 y3.toNat x2) _
        rw [← eh10]
        refine am_R.next ((hp 78).trans rfl) rfl ?_
        refine am_R.next (lv' := [some (.inr (.inr ((40 : Nat) : Int))), some (.inl 1), some (.inl x2), some (.inl x3), some (.inl y3)]) ((hp 79).trans rfl) rfl ?_
        obtain ⟨y11, ey11⟩ : ∃ z : Int, z = am_w (x3 + 1) := ⟨_, rfl⟩
        have H := H y11 ey11
        refine am_R.next (lv' := [some (.inr (.inr ((40 : Nat) : Int))), some (.inl 1), some (.inl x2), some (.inl y11), some (.inl y3)]) (st' := []) (h' := h10) (pc' := 83) ((hp 80).trans rfl) (by rw [ey11]; rfl) ?_
        refine am_R.next ((hp 83).trans rfl) rfl ?_
        exact r_le hs in_246 (le_k (le_k (le_k (le_k (le_d le_n))))) H
theorem w_Search_isBoundBelow_0 {scr : Nat × (Nat → Int)} {d : Nat} {h : am_H} {Q : Option am_V → am_H → Prop} {x1 x2 : Int} (hs : am_sc scr) (hw : wf h) (H : am_R (am_prog scr) (d + 1) f_Search_isBoundBelow 2 [some (.inr (.inr ((40 : Nat) : Int))), some (.inl x1), some (.inl x2), some (.inl 0), none] [] h Q) : am_R (am_prog scr) (d + 1) f_Search_isBoundBelow 0 [some (.inr (.inr ((40 : Nat) : Int))), some (.inl x1), some (.inl x2), none, none] [] h Q := by
  have hp : ∀ k, (am_prog scr).1 f_Search_isBoundBelow k = c_Search_isBoundBelow k := fun _ => rfl
  refine am_R.next ((hp 0).trans rfl) rfl ?_
  refine am_R.next (lv' := [some (.inr (.inr ((40 : Nat) : Int))), some (.inl x1), some (.inl x2), some (.inl 0), none]) ((hp 1).trans rfl) rfl ?_
  exact H
theorem w_Search_isBoundBelow_2 {scr : Nat × (Nat → Int)} {d : Nat} {h : am_H} {Q : Option am_V → am_H → Prop} {x1 x2 x3 : Int} (hs : am_sc scr) (hw : wf h) (H : am_R (am_prog scr) d f_Graph_sleepers 0 [some (.inr (.inr ((30 : Nat) : Int)))] [] h (fun v g1 => ∃ r2 : Int, v = some (.inl r2) ∧ wf g1 ∧ ((r2 < x3 → (Q (some (.inl 1)) g1)) ∧ (¬ (r2 < x3) → (am_R (am_prog scr) d f_Graph_after 0 [some (.inr (.inr ((30 : Nat) : Int))), some (.inl x1), some (.inl x3), none] [] g1 (fun v g3 => ∃ r4 : Int, v = some (.inl r4) ∧ wf g3 ∧ (am_R (am_prog scr) d f_Graph_goesOn 0 [some (.inr (.inr ((30 : Nat) : Int))), some (.inl r4)] [] g3 (fun v g5 => ∃ r6 : Int, v = some (.inl r6) ∧ wf g5 ∧ ((r6 = 0 → (∀ y7 : Int, y7 = am_w (x3 + 1) → (am_R (am_prog scr) (d + 1) f_Search_isBoundBelow 2 [some (.inr (.inr ((40 : Nat) : Int))), some (.inl x1), some (.inl x2), some (.inl y7), none] [] g5 Q))) ∧ (¬ (r6 = 0) → ((0 ≤ r4 ∧ r4 < 185) ∧ (((g5.2.2.2 41 r4.toNat) = (-1) → (Q (some (.inl 0)) g5)) ∧ (¬ ((g5.2.2.2 41 r4.toNat) = (-1)) → ((0 ≤ r4 ∧ r4 < 185) ∧ (((g5.2.2.2 41 r4.toNat) < x2 → (∀ y10 : Int, y10 = am_w (x3 + 1) → (am_R (am_prog scr) (d + 1) f_Search_isBoundBelow 2 [some (.inr (.inr ((40 : Nat) : Int))), some (.inl x1), some (.inl x2), some (.inl y10), none] [] g5 Q))) ∧ (¬ ((g5.2.2.2 41 r4.toNat) < x2) → (Q (some (.inl 0)) g5))))))))))))))))) : am_R (am_prog scr) (d + 1) f_Search_isBoundBelow 2 [some (.inr (.inr ((40 : Nat) : Int))), some (.inl x1), some (.inl x2), some (.inl x3), none] [] h Q := by
  have hp : ∀ k, (am_prog scr).1 f_Search_isBoundBelow k = c_Search_isBoundBelow k := fun _ => rfl
  refine am_R.next ((hp 2).trans rfl) rfl ?_
  refine am_R.next ((hp 3).trans rfl) rfl ?_
  refine r_getR ((hp 4).trans rfl) (hw.o (i := 40) (by decide) rfl) (hw.r wr_40_0) ?_
  refine r_cv (bs := []) (st' := [.inl x3]) ((hp 7).trans rfl) (hw.o (i := 30) (by decide) rfl) rfl rfl (Nat.le_of_ble_eq_true rfl) (Nat.le_of_ble_eq_true rfl) (am_R.post H (fun v g1 hq => ?_))
  obtain ⟨r2, rfl, hw, H⟩ := hq
  change am_R _ _ _ _ _ [.inl r2, .inl x3] _ _
  refine r_ic ((hp 10).trans rfl) (fun c14 => ?_) (fun c14 => ?_)
  · have H := H.1 c14
    refine am_R.next ((hp 66).trans rfl) rfl ?_
    exact r_zret ((hp 67).trans rfl) (Or.inr rfl) H
  · have H := H.2 c14
    refine am_R.next ((hp 13).trans rfl) rfl ?_
    refine r_getR ((hp 14).trans rfl) (hw.o (i := 40) (by decide) rfl) (hw.r wr_40_0) ?_
    refine am_R.next ((hp 17).trans rfl) rfl ?_
    refine am_R.next ((hp 18).trans rfl) rfl ?_
    refine r_cv (bs := [.inl x1, .inl x3]) (st' := []) ((hp 19).trans rfl) (hw.o (i := 30) (by decide) rfl) rfl rfl (Nat.le_of_ble_eq_true rfl) (Nat.le_of_ble_eq_true rfl) (am_R.post H (fun v g3 hq => ?_))
    obtain ⟨r4, rfl, hw, H⟩ := hq
    change am_R _ _ _ _ _ [.inl r4] _ _
    refine am_R.next (lv' := [some (.inr (.inr ((40 : Nat) : Int))), some (.inl x1), some (.inl x2), some (.inl x3), some (.inl r4)]) ((hp 22).trans rfl) rfl ?_
    refine am_R.next ((hp 24).trans rfl) rfl ?_
    refine r_getR ((hp 25).trans rfl) (hw.o (i := 40) (by decide) rfl) (hw.r wr_40_0) ?_
    refine am_R.next ((hp 28).trans rfl) rfl ?_
    refine r_cv (bs := [.inl r4]) (st' := []) ((hp 30).trans rfl) (hw.o (i := 30) (by decide) rfl) rfl rfl (Nat.le_of_ble_eq_true rfl) (Nat.le_of_ble_eq_true rfl) (am_R.post H (fun v g5 hq => ?_))
    obtain ⟨r6, rfl, hw, H⟩ := hq
    change am_R _ _ _ _ _ [.inl r6] _ _
    refine r_if ((hp 33).trans rfl) (fun c13 => ?_) (fun c13 => ?_)
    · have H := H.1 c13
      obtain ⟨y7, ey7⟩ : ∃ z : Int, z = am_w (x3 + 1) := ⟨_, rfl⟩
      have H := H y7 ey7
      refine am_R.next (lv' := [some (.inr (.inr ((40 : Nat) : Int))), some (.inl x1), some (.inl x2), some (.inl y7), some (.inl r4)]) (st' := []) (h' := g5) (pc' := 63) ((hp 60).trans rfl) (by rw [ey7]; rfl) ?_
      refine am_R.next ((hp 63).trans rfl) rfl ?_
      exact r_le hs in_247 (le_k (le_k (le_k (le_k (le_d le_n))))) H
    · have H := H.2 c13
      refine am_R.next ((hp 36).trans rfl) rfl ?_
      refine r_getR ((hp 37).trans rfl) (hw.o (i := 40) (by decide) rfl) (hw.r wr_40_1) ?_
      refine am_R.next ((hp 40).trans rfl) rfl ?_
      obtain ⟨c8, H⟩ := H
      refine r_iald ((hp 42).trans rfl) (hw.a (i := 41) (by decide) rfl c8.1 c8.2) ?_
      refine am_R.next ((hp 43).trans rfl) rfl ?_
      refine r_ic ((hp 44).trans rfl) (fun c12 => ?_) (fun c12 => ?_)
      · have H := H.1 c12
        refine am_R.next ((hp 58).trans rfl) rfl ?_
        exact r_zret ((hp 59).trans rfl) (Or.inl rfl) H
      · have H := H.2 c12
        refine am_R.next ((hp 47).trans rfl) rfl ?_
        refine r_getR ((hp 48).trans rfl) (hw.o (i := 40) (by decide) rfl) (hw.r wr_40_1) ?_
        refine am_R.next ((hp 51).trans rfl) rfl ?_
        obtain ⟨c9, H⟩ := H
        refine r_iald ((hp 53).trans rfl) (hw.a (i := 41) (by decide) rfl c9.1 c9.2) ?_
        refine am_R.next ((hp 54).trans rfl) rfl ?_
        refine r_ic ((hp 55).trans rfl) (fun c11 => ?_) (fun c11 => ?_)
        · have H := H.1 c11
          obtain ⟨y10, ey10⟩ : ∃ z : Int, z = am_w (x3 + 1) := ⟨_, rfl⟩
          have H := H y10 ey10
          refine am_R.next (lv' := [some (.inr (.inr ((40 : Nat) : Int))), some (.inl x1), some (.inl x2), some (.inl y10), some (.inl r4)]) (st' := []) (h' := g5) (pc' := 63) ((hp 60).trans rfl) (by rw [ey10]; rfl) ?_
          refine am_R.next ((hp 63).trans rfl) rfl ?_
          exact r_le hs in_247 (le_k (le_k (le_k (le_k (le_d le_n))))) H
        · have H := H.2 c11
          refine am_R.next ((hp 58).trans rfl) rfl ?_
          exact r_zret ((hp 59).trans rfl) (Or.inl rfl) H
theorem w_Search_longestDeed_0 {scr : Nat × (Nat → Int)} {d : Nat} {h : am_H} {Q : Option am_V → am_H → Prop} {x1 : Int} (hs : am_sc scr) (hw : wf h) (H : am_R (am_prog scr) d f_Search_longest 0 [some (.inr (.inr ((40 : Nat) : Int))), none, none, none, none] [] h (fun v g1 => ∃ r2 : Int, v = some (.inl r2) ∧ wf g1 ∧ ((r2 = (-1) → (∀ y3 : Int, y3 = g1.2.2.2 30 5 → (am_R (am_prog scr) (d + 1) f_Search_longestDeed 36 [some (.inr (.inr ((40 : Nat) : Int))), some (.inl x1), some (.inl r2), some (.inl y3), some (.inl 0)] [] g1 Q))) ∧ (¬ (r2 = (-1)) → ((¬ (x1 < r2) → (Q (some (.inl (-1))) g1)) ∧ (x1 < r2 → (am_R (am_prog scr) d f_Search_deedDownwards 0 [some (.inr (.inr ((40 : Nat) : Int))), some (.inl x1), none, none] [] g1 (fun v g4 => ∃ r5 : Int, v = some (.inl r5) ∧ wf g4 ∧ (Q (some (.inl r5)) g4))))))))) : am_R (am_prog scr) (d + 1) f_Search_longestDeed 0 [some (.inr (.inr ((40 : Nat) : Int))), some (.inl x1), none, none, none] [] h Q := by
  have hp : ∀ k, (am_prog scr).1 f_Search_longestDeed k = c_Search_longestDeed k := fun _ => rfl
  refine am_R.next ((hp 0).trans rfl) rfl ?_
  refine r_cv (bs := []) (st' := []) ((hp 1).trans rfl) (hw.o (i := 40) (by decide) rfl) rfl rfl (Nat.le_of_ble_eq_true rfl) (Nat.le_of_ble_eq_true rfl) (am_R.post H (fun v g1 hq => ?_))
  obtain ⟨r2, rfl, hw, H⟩ := hq
  change am_R _ _ _ _ _ [.inl r2] _ _
  refine am_R.next (lv' := [some (.inr (.inr ((40 : Nat) : Int))), some (.inl x1), some (.inl r2), none, none]) ((hp 4).trans rfl) rfl ?_
  refine am_R.next ((hp 5).trans rfl) rfl ?_
  refine am_R.next ((hp 6).trans rfl) rfl ?_
  refine r_ic ((hp 7).trans rfl) (fun c7 => ?_) (fun c7 => ?_)
  · have H := H.1 c7
    refine am_R.next ((hp 25).trans rfl) rfl ?_
    refine r_getR ((hp 26).trans rfl) (hw.o (i := 40) (by decide) rfl) (hw.r wr_40_0) ?_
    refine r_getI ((hp 29).trans rfl) (hw.o (i := 30) (by decide) rfl) ?_
    obtain ⟨y3, ey3⟩ : ∃ z : Int, z = g1.2.2.2 30 5 := ⟨_, rfl⟩
    have H := H y3 ey3
    refine am_R.next (lv' := [some (.inr (.inr ((40 : Nat) : Int))), some (.inl x1), some (.inl r2), some (.inl y3), none]) (st' := []) (h' := g1) (pc' := 33) ((hp 32).trans rfl) (by rw [ey3]; rfl) ?_
    refine am_R.next ((hp 33).trans rfl) rfl ?_
    refine am_R.next (lv' := [some (.inr (.inr ((40 : Nat) : Int))), some (.inl x1), some (.inl r2), some (.inl y3), some (.inl 0)]) ((hp 34).trans rfl) rfl ?_
    exact H
  · have H := H.2 c7
    refine am_R.next ((hp 10).trans rfl) rfl ?_
    refine am_R.next ((hp 11).trans rfl) rfl ?_
    refine r_ic ((hp 12).trans rfl) (fun c6 => ?_) (fun c6 => ?_)
    · have H := H.1 c6
      refine am_R.next ((hp 23).trans rfl) rfl ?_
      exact am_R.ret ((hp 24).trans rfl) rfl H
    · have H := H.2 (Decidable.not_not.mp c6)
      refine am_R.next ((hp 15).trans rfl) rfl ?_
      refine am_R.next ((hp 16).trans rfl) rfl ?_
      refine r_cv (bs := [.inl x1]) (st' := []) ((hp 17).trans rfl) (hw.o (i := 40) (by decide) rfl) rfl rfl (Nat.le_of_ble_eq_true rfl) (Nat.le_of_ble_eq_true rfl) (am_R.post H (fun v g4 hq => ?_))
      obtain ⟨r5, rfl, hw, H⟩ := hq
      change am_R _ _ _ _ _ [.inl r5] _ _
      refine am_R.next ((hp 20).trans rfl) rfl ?_
      exact am_R.ret ((hp 24).trans rfl) rfl H
theorem w_Search_longestDeed_36 {scr : Nat × (Nat → Int)} {d : Nat} {h : am_H} {Q : Option am_V → am_H → Prop} {x1 x2 x3 x4 : Int} (hs : am_sc scr) (hw : wf h) (H : (¬ (x4 < x1) → (am_R (am_prog scr) d f_Search_endlessDeed 0 [some (.inr (.inr ((40 : Nat) : Int))), some (.inl x3), none, none] [] h (fun v g1 => ∃ r2 : Int, v = some (.inl r2) ∧ wf g1 ∧ (Q (some (.inl r2)) g1)))) ∧ (x4 < x1 → (am_R (am_prog scr) d f_Search_endlessDeed 0 [some (.inr (.inr ((40 : Nat) : Int))), some (.inl x3), none, none] [] h (fun v g3 => ∃ r4 : Int, v = some (.inl r4) ∧ wf g3 ∧ (am_R (am_prog scr) d f_Graph_after 0 [some (.inr (.inr ((30 : Nat) : Int))), some (.inl x3), some (.inl r4), none] [] g3 (fun v g5 => ∃ r6 : Int, v = some (.inl r6) ∧ wf g5 ∧ (∀ y7 : Int, y7 = am_w (x4 + 1) → (am_R (am_prog scr) (d + 1) f_Search_longestDeed 36 [some (.inr (.inr ((40 : Nat) : Int))), some (.inl x1), some (.inl x2), some (.inl r6), some (.inl y7)] [] g5 Q)))))))) : am_R (am_prog scr) (d + 1) f_Search_longestDeed 36 [some (.inr (.inr ((40 : Nat) : Int))), some (.inl x1), some (.inl x2), some (.inl x3), some (.inl x4)] [] h Q := by
  have hp : ∀ k, (am_prog scr).1 f_Search_longestDeed k = c_Search_longestDeed k := fun _ => rfl
  refine am_R.next ((hp 36).trans rfl) rfl ?_
  refine am_R.next ((hp 38).trans rfl) rfl ?_
  refine r_ic ((hp 39).trans rfl) (fun c8 => ?_) (fun c8 => ?_)
  · have H := H.1 c8
    refine am_R.next ((hp 62).trans rfl) rfl ?_
    refine am_R.next ((hp 63).trans rfl) rfl ?_
    refine r_cv (bs := [.inl x3]) (st' := []) ((hp 64).trans rfl) (hw.o (i := 40) (by decide) rfl) rfl rfl (Nat.le_of_ble_eq_true rfl) (Nat.le_of_ble_eq_true rfl) (am_R.post H (fun v g1 hq => ?_))
    obtain ⟨r2, rfl, hw, H⟩ := hq
    change am_R _ _ _ _ _ [.inl r2] _ _
    exact am_R.ret ((hp 67).trans rfl) rfl H
  · have H := H.2 (Decidable.not_not.mp c8)
    refine am_R.next ((hp 42).trans rfl) rfl ?_
    refine r_getR ((hp 43).trans rfl) (hw.o (i := 40) (by decide) rfl) (hw.r wr_40_0) ?_
    refine am_R.next ((hp 46).trans rfl) rfl ?_
    refine am_R.next ((hp 47).trans rfl) rfl ?_
    refine am_R.next ((hp 48).trans rfl) rfl ?_
    refine r_cv (bs := [.inl x3]) (st' := [.inl x3, .inr (.inr ((30 : Nat) : Int))]) ((hp 49).trans rfl) (hw.o (i := 40) (by decide) rfl) rfl rfl (Nat.le_of_ble_eq_true rfl) (Nat.le_of_ble_eq_true rfl) (am_R.post H (fun v g3 hq => ?_))
    obtain ⟨r4, rfl, hw, H⟩ := hq
    change am_R _ _ _ _ _ [.inl r4, .inl x3, .inr (.inr ((30 : Nat) : Int))] _ _
    refine r_cv (bs := [.inl x3, .inl r4]) (st' := []) ((hp 52).trans rfl) (hw.o (i := 30) (by decide) rfl) rfl rfl (Nat.le_of_ble_eq_true rfl) (Nat.le_of_ble_eq_true rfl) (am_R.post H (fun v g5 hq => ?_))
    obtain ⟨r6, rfl, hw, H⟩ := hq
    change am_R _ _ _ _ _ [.inl r6] _ _
    refine am_R.next (lv' := [some (.inr (.inr ((40 : Nat) : Int))), some (.inl x1), some (.inl x2), some (.inl r6), some (.inl x4)]) ((hp 55).trans rfl) rfl ?_
    obtain ⟨y7, ey7⟩ : ∃ z : Int, z = am_w (x4 + 1) := ⟨_, rfl⟩
    have H := H y7 ey7
    refine am_R.next (lv' := [some (.inr (.inr ((40 : Nat) : Int))), some (.inl x1), some (.inl x2), some (.inl r6), some (.inl y7)]) (st' := []) (h' := g5) (pc' := 59) ((hp 56).trans rfl) (by rw [ey7]; rfl) ?_
    refine am_R.next ((hp 59).trans rfl) rfl ?_
    exact H
theorem w_Search_endlessDeed_0 {scr : Nat × (Nat → Int)} {d : Nat} {h : am_H} {Q : Option am_V → am_H → Prop} {x1 : Int} (hs : am_sc scr) (hw : wf h) (H : am_R (am_prog scr) (d + 1) f_Search_endlessDeed 2 [some (.inr (.inr ((40 : Nat) : Int))), some (.inl x1), some (.inl 0), none] [] h Q) : am_R (am_prog scr) (d + 1) f_Search_endlessDeed 0 [some (.inr (.inr ((40 : Nat) : Int))), some (.inl x1), none, none] [] h Q := by
  have hp : ∀ k, (am_prog scr).1 f_Search_endlessDeed k = c_Search_endlessDeed k := fun _ => rfl
  refine am_R.next ((hp 0).trans rfl) rfl ?_
  refine am_R.next (lv' := [some (.inr (.inr ((40 : Nat) : Int))), some (.inl x1), some (.inl 0), none]) ((hp 1).trans rfl) rfl ?_
  exact H
theorem w_Search_endlessDeed_2 {scr : Nat × (Nat → Int)} {d : Nat} {h : am_H} {Q : Option am_V → am_H → Prop} {x1 x2 : Int} (hs : am_sc scr) (hw : wf h) (H : am_R (am_prog scr) d f_Graph_sleepers 0 [some (.inr (.inr ((30 : Nat) : Int)))] [] h (fun v g1 => ∃ r2 : Int, v = some (.inl r2) ∧ wf g1 ∧ ((r2 < x2 → (Q (some (.inl 0)) g1)) ∧ (¬ (r2 < x2) → (am_R (am_prog scr) d f_Graph_after 0 [some (.inr (.inr ((30 : Nat) : Int))), some (.inl x1), some (.inl x2), none] [] g1 (fun v g3 => ∃ r4 : Int, v = some (.inl r4) ∧ wf g3 ∧ (am_R (am_prog scr) d f_Graph_goesOn 0 [some (.inr (.inr ((30 : Nat) : Int))), some (.inl r4)] [] g3 (fun v g5 => ∃ r6 : Int, v = some (.inl r6) ∧ wf g5 ∧ ((r6 = 0 → (∀ y7 : Int, y7 = am_w (x2 + 1) → (am_R (am_prog scr) (d + 1) f_Search_endlessDeed 2 [some (.inr (.inr ((40 : Nat) : Int))), some (.inl x1), some (.inl y7), none] [] g5 Q))) ∧ (¬ (r6 = 0) → ((0 ≤ r4 ∧ r4 < 185) ∧ ((¬ ((g5.2.2.2 41 r4.toNat) = (-1)) → (∀ y9 : Int, y9 = am_w (x2 + 1) → (am_R (am_prog scr) (d + 1) f_Search_endlessDeed 2 [some (.inr (.inr ((40 : Nat) : Int))), some (.inl x1), some (.inl y9), none] [] g5 Q))) ∧ ((g5.2.2.2 41 r4.toNat) = (-1) → (Q (some (.inl x2)) g5)))))))))))))) : am_R (am_prog scr) (d + 1) f_Search_endlessDeed 2 [some (.inr (.inr ((40 : Nat) : Int))), some (.inl x1), some (.inl x2), none] [] h Q := by
  have hp : ∀ k, (am_prog scr).1 f_Search_endlessDeed k = c_Search_endlessDeed k := fun _ => rfl
  refine am_R.next ((hp 2).trans rfl) rfl ?_
  refine am_R.next ((hp 3).trans rfl) rfl ?_
  refine r_getR ((hp 4).trans rfl) (hw.o (i := 40) (by decide) rfl) (hw.r wr_40_0) ?_
  refine r_cv (bs := []) (st' := [.inl x2]) ((hp 7).trans rfl) (hw.o (i := 30) (by decide) rfl) rfl rfl (Nat.le_of_ble_eq_true rfl) (Nat.le_of_ble_eq_true rfl) (am_R.post H (fun v g1 hq => ?_))
  obtain ⟨r2, rfl, hw, H⟩ := hq
  change am_R _ _ _ _ _ [.inl r2, .inl x2] _ _
  refine r_ic ((hp 10).trans rfl) (fun c12 => ?_) (fun c12 => ?_)
  · have H := H.1 c12
    refine am_R.next ((hp 52).trans rfl) rfl ?_
    exact am_R.ret ((hp 53).trans rfl) rfl H
  · have H := H.2 c12
    refine am_R.next ((hp 13).trans rfl) rfl ?_
    refine r_getR ((hp 14).trans rfl) (hw.o (i := 40) (by decide) rfl) (hw.r wr_40_0) ?_
    refine am_R.next ((hp 17).trans rfl) rfl ?_
    refine am_R.next ((hp 18).trans rfl) rfl ?_
    refine r_cv (bs := [.inl x1, .inl x2]) (st' := []) ((hp 19).trans rfl) (hw.o (i := 30) (by decide) rfl) rfl rfl (Nat.le_of_ble_eq_true rfl) (Nat.le_of_ble_eq_true rfl) (am_R.post H (fun v g3 hq => ?_))
    obtain ⟨r4, rfl, hw, H⟩ := hq
    change am_R _ _ _ _ _ [.inl r4] _ _
    refine am_R.next (lv' := [some (.inr (.inr ((40 : Nat) : Int))), some (.inl x1), some (.inl x2), some (.inl r4)]) ((hp 22).trans rfl) rfl ?_
    refine am_R.next ((hp 23).trans rfl) rfl ?_
    refine r_getR ((hp 24).trans rfl) (hw.o (i := 40) (by decide) rfl) (hw.r wr_40_0) ?_
    refine am_R.next ((hp 27).trans rfl) rfl ?_
    refine r_cv (bs := [.inl r4]) (st' := []) ((hp 28).trans rfl) (hw.o (i := 30) (by decide) rfl) rfl rfl (Nat.le_of_ble_eq_true rfl) (Nat.le_of_ble_eq_true rfl) (am_R.post H (fun v g5 hq => ?_))
    obtain ⟨r6, rfl, hw, H⟩ := hq
    change am_R _ _ _ _ _ [.inl r6] _ _
    refine r_if ((hp 31).trans rfl) (fun c11 => ?_) (fun c11 => ?_)
    · have H := H.1 c11
      obtain ⟨y7, ey7⟩ : ∃ z : Int, z = am_w (x2 + 1) := ⟨_, rfl⟩
      have H := H y7 ey7
      refine am_R.next (lv' := [some (.inr (.inr ((40 : Nat) : Int))), some (.inl x1), some (.inl y7), some (.inl r4)]) (st' := []) (h' := g5) (pc' := 49) ((hp 46).trans rfl) (by rw [ey7]; rfl) ?_
      refine am_R.next ((hp 49).trans rfl) rfl ?_
      exact r_le hs in_249 (le_k (le_k (le_k (le_d le_n)))) H
    · have H := H.2 c11
      refine am_R.next ((hp 34).trans rfl) rfl ?_
      refine r_getR ((hp 35).trans rfl) (hw.o (i := 40) (by decide) rfl) (hw.r wr_40_1) ?_
      refine am_R.next ((hp 38).trans rfl) rfl ?_
      obtain ⟨c8, H⟩ := H
      refine r_iald ((hp 39).trans rfl) (hw.a (i := 41) (by decide) rfl c8.1 c8.2) ?_
      refine am_R.next ((hp 40).trans rfl) rfl ?_
      refine r_ic ((hp 41).trans rfl) (fun c10 => ?_) (fun c10 => ?_)
      · have H := H.1 c10
        obtain ⟨y9, ey9⟩ : ∃ z : Int, z = am_w (x2 + 1) := ⟨_, rfl⟩
        have H := H y9 ey9
        refine am_R.next (lv' := [some (.inr (.inr ((40 : Nat) : Int))), some (.inl x1), some (.inl y9), some (.inl r4)]) (st' := []) (h' := g5) (pc' := 49) ((hp 46).trans rfl) (by rw [ey9]; rfl) ?_
        refine am_R.next ((hp 49).trans rfl) rfl ?_
        exact r_le hs in_249 (le_k (le_k (le_k (le_d le_n)))) H
      · have H := H.2 (Decidable.not_not.mp c10)
        refine am_R.next ((hp 44).trans rfl) rfl ?_
        exact am_R.ret ((hp 45).trans rfl) rfl H
theorem w_Search_snorers_0 {scr : Nat × (Nat → Int)} {d : Nat} {h : am_H} {Q : Option am_V → am_H → Prop} (hs : am_sc scr) (hw : wf h) (H : am_R (am_prog scr) (d + 1) f_Search_snorers 4 [some (.inr (.inr ((40 : Nat) : Int))), some (.inl 0), some (.inl 0), none, none] [] h Q) : am_R (am_prog scr) (d + 1) f_Search_snorers 0 [some (.inr (.inr ((40 : Nat) : Int))), none, none, none, none] [] h Q := by
  have hp : ∀ k, (am_prog scr).1 f_Search_snorers k = c_Search_snorers k := fun _ => rfl
  refine am_R.next ((hp 0).trans rfl) rfl ?_
  refine am_R.next (lv' := [some (.inr (.inr ((40 : Nat) : Int))), some (.inl 0), none, none, none]) ((hp 1).trans rfl) rfl ?_
  refine am_R.next ((hp 2).trans rfl) rfl ?_
  refine am_R.next (lv' := [some (.inr (.inr ((40 : Nat) : Int))), some (.inl 0), some (.inl 0), none, none]) ((hp 3).trans rfl) rfl ?_
  exact H
theorem w_Search_snorers_4 {scr : Nat × (Nat → Int)} {d : Nat} {h : am_H} {Q : Option am_V → am_H → Prop} {x1 x2 : Int} (hs : am_sc scr) (hw : wf h) (H : (¬ (x2 < (h.2.2.2 30 7)) → (Q (some (.inl x1)) h)) ∧ (x2 < (h.2.2.2 30 7) → (am_R (am_prog scr) (d + 1) f_Search_snorers 17 [some (.inr (.inr ((40 : Nat) : Int))), some (.inl x1), some (.inl x2), some (.inl 0), none] [] h Q))) : am_R (am_prog scr) (d + 1) f_Search_snorers 4 [some (.inr (.inr ((40 : Nat) : Int))), some (.inl x1), some (.inl x2), none, none] [] h Q := by
  have hp : ∀ k, (am_prog scr).1 f_Search_snorers k = c_Search_snorers k := fun _ => rfl
  refine am_R.next ((hp 4).trans rfl) rfl ?_
  refine am_R.next ((hp 5).trans rfl) rfl ?_
  refine r_getR ((hp 6).trans rfl) (hw.o (i := 40) (by decide) rfl) (hw.r wr_40_0) ?_
  refine r_getI ((hp 9).trans rfl) (hw.o (i := 30) (by decide) rfl) ?_
  refine r_ic ((hp 12).trans rfl) (fun c1 => ?_) (fun c1 => ?_)
  · have H := H.1 c1
    refine am_R.next ((hp 85).trans rfl) rfl ?_
    exact am_R.ret ((hp 86).trans rfl) rfl H
  · have H := H.2 (Decidable.not_not.mp c1)
    refine am_R.next ((hp 15).trans rfl) rfl ?_
    refine am_R.next (lv' := [some (.inr (.inr ((40 : Nat) : Int))), some (.inl x1), some (.inl x2), some (.inl 0), none]) ((hp 16).trans rfl) rfl ?_
    exact H
theorem w_Search_snorers_17 {scr : Nat × (Nat → Int)} {d : Nat} {h : am_H} {Q : Option am_V → am_H → Prop} {x1 x2 x3 : Int} (hs : am_sc scr) (hw : wf h) (H : am_R (am_prog scr) d f_Graph_sleepers 0 [some (.inr (.inr ((30 : Nat) : Int)))] [] h (fun v g1 => ∃ r2 : Int, v = some (.inl r2) ∧ wf g1 ∧ ((r2 < x3 → (∀ y3 : Int, y3 = am_w (x2 + 1) → (am_R (am_prog scr) (d + 1) f_Search_snorers 4 [some (.inr (.inr ((40 : Nat) : Int))), some (.inl x1), some (.inl y3), none, none] [] g1 Q))) ∧ (¬ (r2 < x3) → ((0 ≤ x2 ∧ x2 < 180) ∧ (am_R (am_prog scr) d f_Graph_after 0 [some (.inr (.inr ((30 : Nat) : Int))), some (.inl (g1.2.2.2 36 x2.toNat)), some (.inl x3), none] [] g1 (fun v g5 => ∃ r6 : Int, v = some (.inl r6) ∧ wf g5 ∧ (am_R (am_prog scr) d f_Graph_isStill 0 [some (.inr (.inr ((30 : Nat) : Int))), some (.inl r6)] [] g5 (fun v g7 => ∃ r8 : Int, v = some (.inl r8) ∧ wf g7 ∧ ((¬ (r8 = 0) → (∀ y9 : Int, y9 = am_w (x3 + 1) → (am_R (am_prog scr) (d + 1) f_Search_snorers 17 [some (.inr (.inr ((40 : Nat) : Int))), some (.inl x1), some (.inl x2), some (.inl y9), none] [] g7 Q))) ∧ (r8 = 0 → (am_R (am_prog scr) d f_Graph_lastOf 0 [some (.inr (.inr ((30 : Nat) : Int))), some (.inl r6)] [] g7 (fun v g10 => ∃ r11 : Int, v = some (.inl r11) ∧ wf g10 ∧ (∀ y12 : Int, y12 = am_or x1 (am_shl 1 r11) → (∀ y13 : Int, y13 = am_w (x3 + 1) → (am_R (am_prog scr) (d + 1) f_Search_snorers 17 [some (.inr (.inr ((40 : Nat) : Int))), some (.inl y12), some (.inl x2), some (.inl y13), none] [] g10 Q)))))))))))))))) : am_R (am_prog scr) (d + 1) f_Search_snorers 17 [some (.inr (.inr ((40 : Nat) : Int))), some (.inl x1), some (.inl x2), some (.inl x3), none] [] h Q := by
  have hp : ∀ k, (am_prog scr).1 f_Search_snorers k = c_Search_snorers k := fun _ => rfl
  refine am_R.next ((hp 17).trans rfl) rfl ?_
  refine am_R.next ((hp 18).trans rfl) rfl ?_
  refine r_getR ((hp 19).trans rfl) (hw.o (i := 40) (by decide) rfl) (hw.r wr_40_0) ?_
  refine r_cv (bs := []) (st' := [.inl x3]) ((hp 22).trans rfl) (hw.o (i := 30) (by decide) rfl) rfl rfl (Nat.le_of_ble_eq_true rfl) (Nat.le_of_ble_eq_true rfl) (am_R.post H (fun v g1 hq => ?_))
  obtain ⟨r2, rfl, hw, H⟩ := hq
  change am_R _ _ _ _ _ [.inl r2, .inl x3] _ _
  refine r_ic ((hp 25).trans rfl) (fun c15 => ?_) (fun c15 => ?_)
  · have H := H.1 c15
    obtain ⟨y3, ey3⟩ : ∃ z : Int, z = am_w (x2 + 1) := ⟨_, rfl⟩
    have H := H y3 ey3
    refine am_R.next (lv' := [some (.inr (.inr ((40 : Nat) : Int))), some (.inl x1), some (.inl y3), some (.inl x3), none]) (st' := []) (h' := g1) (pc' := 82) ((hp 79).trans rfl) (by rw [ey3]; rfl) ?_
    refine am_R.next ((hp 82).trans rfl) rfl ?_
    exact r_le hs in_250 (le_k (le_k (le_k (le_d (le_k le_n))))) H
  · have H := H.2 c15
    refine am_R.next ((hp 28).trans rfl) rfl ?_
    refine r_getR ((hp 29).trans rfl) (hw.o (i := 40) (by decide) rfl) (hw.r wr_40_0) ?_
    refine am_R.next ((hp 32).trans rfl) rfl ?_
    refine r_getR ((hp 33).trans rfl) (hw.o (i := 40) (by decide) rfl) (hw.r wr_40_0) ?_
    refine r_getR ((hp 36).trans rfl) (hw.o (i := 30) (by decide) rfl) (hw.r wr_30_6) ?_
    refine am_R.next ((hp 39).trans rfl) rfl ?_
    obtain ⟨c4, H⟩ := H
    refine r_iald ((hp 40).trans rfl) (hw.a (i := 36) (by decide) rfl c4.1 c4.2) ?_
    refine am_R.next ((hp 41).trans rfl) rfl ?_
    refine r_cv (bs := [.inl (g1.2.2.2 36 x2.toNat), .inl x3]) (st' := []) ((hp 42).trans rfl) (hw.o (i := 30) (by decide) rfl) rfl rfl (Nat.le_of_ble_eq_true rfl) (Nat.le_of_ble_eq_true rfl) (am_R.post H (fun v g5 hq => ?_))
    obtain ⟨r6, rfl, hw, H⟩ := hq
    change am_R _ _ _ _ _ [.inl r6] _ _
    refine am_R.next (lv' := [some (.inr (.inr ((40 : Nat) : Int))), some (.inl x1), some (.inl x2), some (.inl x3), some (.inl r6)]) ((hp 45).trans rfl) rfl ?_
    refine am_R.next ((hp 47).trans rfl) rfl ?_
    refine r_getR ((hp 48).trans rfl) (hw.o (i := 40) (by decide) rfl) (hw.r wr_40_0) ?_
    refine am_R.next ((hp 51).trans rfl) rfl ?_
    refine r_cv (bs := [.inl r6]) (st' := []) ((hp 53).trans rfl) (hw.o (i := 30) (by decide) rfl) rfl rfl (Nat.le_of_ble_eq_true rfl) (Nat.le_of_ble_eq_true rfl) (am_R.post H (fun v g7 hq => ?_))
    obtain ⟨r8, rfl, hw, H⟩ := hq
    change am_R _ _ _ _ _ [.inl r8] _ _
    refine r_if ((hp 56).trans rfl) (fun c14 => ?_) (fun c14 => ?_)
    · have H := H.1 c14
      obtain ⟨y9, ey9⟩ : ∃ z : Int, z = am_w (x3 + 1) := ⟨_, rfl⟩
      have H := H y9 ey9
      refine am_R.next (lv' := [some (.inr (.inr ((40 : Nat) : Int))), some (.inl x1), some (.inl x2), some (.inl y9), some (.inl r6)]) (st' := []) (h' := g7) (pc' := 76) ((hp 73).trans rfl) (by rw [ey9]; rfl) ?_
      refine am_R.next ((hp 76).trans rfl) rfl ?_
      exact r_le hs in_250 (le_k (le_k (le_k (le_k (le_d le_n))))) H
    · have H := H.2 (Decidable.not_not.mp c14)
      refine am_R.next ((hp 59).trans rfl) rfl ?_
      refine am_R.next ((hp 60).trans rfl) rfl ?_
      refine am_R.next ((hp 61).trans rfl) rfl ?_
      refine r_getR ((hp 62).trans rfl) (hw.o (i := 40) (by decide) rfl) (hw.r wr_40_0) ?_
      refine am_R.next ((hp 65).trans rfl) rfl ?_
      refine r_cv (bs := [.inl r6]) (st' := [.inl 1, .inl x1]) ((hp 67).trans rfl) (hw.o (i := 30) (by decide) rfl) rfl rfl (Nat.le_of_ble_eq_true rfl) (Nat.le_of_ble_eq_true rfl) (am_R.post H (fun v g10 hq => ?_))
      obtain ⟨r11, rfl, hw, H⟩ := hq
      change am_R _ _ _ _ _ [.inl r11, .inl 1, .inl x1] _ _
      refine am_R.next ((hp 70).trans rfl) rfl ?_
      refine am_R.next ((hp 71).trans rfl) rfl ?_
      obtain ⟨y12, ey12⟩ : ∃ z : Int, z = am_or x1 (am_shl 1 r11) := ⟨_, rfl⟩
      have H := H y12 ey12
      refine am_R.next (lv' := [some (.inr (.inr ((40 : Nat) : Int))), some (.inl y12), some (.inl x2), some (.inl x3), some (.inl r6)]) (st' := []) (h' := g10) (pc' := 73) ((hp 72).trans rfl) (by rw [ey12]; rfl) ?_
      obtain ⟨y13, ey13⟩ : ∃ z : Int, z = am_w (x3 + 1) := ⟨_, rfl⟩
      have H := H y13 ey13
      refine am_R.next (lv' := [some (.inr (.inr ((40 : Nat) : Int))), some (.inl y12), some (.inl x2), some (.inl y13), some (.inl r6)]) (st' := []) (h' := g10) (pc' := 76) ((hp 73).trans rfl) (by rw [ey13]; rfl) ?_
      refine am_R.next ((hp 76).trans rfl) rfl ?_
      exact r_le hs in_250 (le_k (le_k (le_k (le_k (le_d le_n))))) H
theorem w_Search_forcedIn_0 {scr : Nat × (Nat → Int)} {d : Nat} {h : am_H} {Q : Option am_V → am_H → Prop} (hs : am_sc scr) (hw : wf h) (H : am_R (am_prog scr) d f_Search_clear 0 [some (.inr (.inr ((40 : Nat) : Int))), some (.inr (.inr ((41 : Nat) : Int))), some (.inl 0), none] [] h (fun v g1 => v = none ∧ wf g1 ∧ (am_R (am_prog scr) d f_Search_clear 0 [some (.inr (.inr ((40 : Nat) : Int))), some (.inr (.inr ((42 : Nat) : Int))), some (.inl 0), none] [] g1 (fun v g2 => v = none ∧ wf g2 ∧ (am_R (am_prog scr) (d + 1) f_Search_forcedIn 22 [some (.inr (.inr ((40 : Nat) : Int))), some (.inl 1), some (.inl 1), none] [] g2 Q))))) : am_R (am_prog scr) (d + 1) f_Search_forcedIn 0 [some (.inr (.inr ((40 : Nat) : Int))), none, none, none] [] h Q := by
  have hp : ∀ k, (am_prog scr).1 f_Search_forcedIn k = c_Search_forcedIn k := fun _ => rfl
  refine am_R.next ((hp 0).trans rfl) rfl ?_
  refine am_R.next ((hp 1).trans rfl) rfl ?_
  refine r_getR ((hp 2).trans rfl) (hw.o (i := 40) (by decide) rfl) (hw.r wr_40_1) ?_
  refine am_R.next ((hp 5).trans rfl) rfl ?_
  refine r_cv (bs := [.inr (.inr ((41 : Nat) : Int)), .inl 0]) (st' := []) ((hp 6).trans rfl) (hw.o (i := 40) (by decide) rfl) rfl rfl (Nat.le_of_ble_eq_true rfl) (Nat.le_of_ble_eq_true rfl) (am_R.post H (fun v g1 hq => ?_))
  obtain ⟨rfl, hw, H⟩ := hq
  change am_R _ _ _ _ _ [] _ _
  refine am_R.next ((hp 9).trans rfl) rfl ?_
  refine am_R.next ((hp 10).trans rfl) rfl ?_
  refine r_getR ((hp 11).trans rfl) (hw.o (i := 40) (by decide) rfl) (hw.r wr_40_2) ?_
  refine am_R.next ((hp 14).trans rfl) rfl ?_
  refine r_cv (bs := [.inr (.inr ((42 : Nat) : Int)), .inl 0]) (st' := []) ((hp 15).trans rfl) (hw.o (i := 40) (by decide) rfl) rfl rfl (Nat.le_of_ble_eq_true rfl) (Nat.le_of_ble_eq_true rfl) (am_R.post H (fun v g2 hq => ?_))
  obtain ⟨rfl, hw, H⟩ := hq
  change am_R _ _ _ _ _ [] _ _
  refine am_R.next ((hp 18).trans rfl) rfl ?_
  refine am_R.next (lv' := [some (.inr (.inr ((40 : Nat) : Int))), some (.inl 1), none, none]) ((hp 19).trans rfl) rfl ?_
  refine am_R.next ((hp 20).trans rfl) rfl ?_
  refine am_R.next (lv' := [some (.inr (.inr ((40 : Nat) : Int))), some (.inl 1), some (.inl 1), none]) ((hp 21).trans rfl) rfl ?_
  exact H
theorem w_Search_forcedIn_22 {scr : Nat × (Nat → Int)} {d : Nat} {h : am_H} {Q : Option am_V → am_H → Prop} {x1 x2 : Int} (hs : am_sc scr) (hw : wf h) (H : (360 < x2 → ((0 ≤ (h.2.2.2 30 5) ∧ (h.2.2.2 30 5) < 185) ∧ (Q (some (.inl (h.2.2.2 41 ((h.2.2.2 30 5).toNat)))) h))) ∧ (¬ (360 < x2) → ((x1 = 0 → ((0 ≤ (h.2.2.2 30 5) ∧ (h.2.2.2 30 5) < 185) ∧ (Q (some (.inl (h.2.2.2 41 ((h.2.2.2 30 5).toNat)))) h))) ∧ (¬ (x1 = 0) → ((0 ≤ (h.2.2.2 30 5) ∧ (h.2.2.2 30 5) < 185) ∧ ((¬ ((h.2.2.2 41 ((h.2.2.2 30 5).toNat)) = (-1)) → ((0 ≤ (h.2.2.2 30 5) ∧ (h.2.2.2 30 5) < 185) ∧ (Q (some (.inl (h.2.2.2 41 ((h.2.2.2 30 5).toNat)))) h))) ∧ ((h.2.2.2 41 ((h.2.2.2 30 5).toNat)) = (-1) → (am_R (am_prog scr) (d + 1) f_Search_forcedIn 53 [some (.inr (.inr ((40 : Nat) : Int))), some (.inl 0), some (.inl x2), some (.inl 0)] [] h Q)))))))) : am_R (am_prog scr) (d + 1) f_Search_forcedIn 22 [some (.inr (.inr ((40 : Nat) : Int))), some (.inl x1), some (.inl x2), none] [] h Q := by
  have hp : ∀ k, (am_prog scr).1 f_Search_forcedIn k = c_Search_forcedIn k := fun _ => rfl
  refine am_R.next ((hp 22).trans rfl) rfl ?_
  refine am_R.next ((hp 23).trans rfl) rfl ?_
  refine r_ic ((hp 26).trans rfl) (fun c7 => ?_) (fun c7 => ?_)
  · have H := H.1 c7
    refine am_R.next ((hp 93).trans rfl) rfl ?_
    refine r_getR ((hp 94).trans rfl) (hw.o (i := 40) (by decide) rfl) (hw.r wr_40_1) ?_
    refine am_R.next ((hp 97).trans rfl) rfl ?_
    refine r_getR ((hp 98).trans rfl) (hw.o (i := 40) (by decide) rfl) (hw.r wr_40_0) ?_
    refine r_getI ((hp 101).trans rfl) (hw.o (i := 30) (by decide) rfl) ?_
    obtain ⟨c1, H⟩ := H
    refine r_iald ((hp 104).trans rfl) (hw.a (i := 41) (by decide) rfl c1.1 c1.2) ?_
    exact am_R.ret ((hp 105).trans rfl) rfl H
  · have H := H.2 c7
    refine am_R.next ((hp 29).trans rfl) rfl ?_
    refine r_if ((hp 30).trans rfl) (fun c6 => ?_) (fun c6 => ?_)
    · have H := H.1 c6
      refine am_R.next ((hp 93).trans rfl) rfl ?_
      refine r_getR ((hp 94).trans rfl) (hw.o (i := 40) (by decide) rfl) (hw.r wr_40_1) ?_
      refine am_R.next ((hp 97).trans rfl) rfl ?_
      refine r_getR ((hp 98).trans rfl) (hw.o (i := 40) (by decide) rfl) (hw.r wr_40_0) ?_
      refine r_getI ((hp 101).trans rfl) (hw.o (i := 30) (by decide) rfl) ?_
      obtain ⟨c2, H⟩ := H
      refine r_iald ((hp 104).trans rfl) (hw.a (i := 41) (by decide) rfl c2.1 c2.2) ?_
      exact am_R.ret ((hp 105).trans rfl) rfl H
    · have H := H.2 c6
      refine am_R.next ((hp 33).trans rfl) rfl ?_
      refine r_getR ((hp 34).trans rfl) (hw.o (i := 40) (by decide) rfl) (hw.r wr_40_1) ?_
      refine am_R.next ((hp 37).trans rfl) rfl ?_
      refine r_getR ((hp 38).trans rfl) (hw.o (i := 40) (by decide) rfl) (hw.r wr_40_0) ?_
      refine r_getI ((hp 41).trans rfl) (hw.o (i := 30) (by decide) rfl) ?_
      obtain ⟨c3, H⟩ := H
      refine r_iald ((hp 44).trans rfl) (hw.a (i := 41) (by decide) rfl c3.1 c3.2) ?_
      refine am_R.next ((hp 45).trans rfl) rfl ?_
      refine r_ic ((hp 46).trans rfl) (fun c5 => ?_) (fun c5 => ?_)
      · have H := H.1 c5
        refine am_R.next ((hp 93).trans rfl) rfl ?_
        refine r_getR ((hp 94).trans rfl) (hw.o (i := 40) (by decide) rfl) (hw.r wr_40_1) ?_
        refine am_R.next ((hp 97).trans rfl) rfl ?_
        refine r_getR ((hp 98).trans rfl) (hw.o (i := 40) (by decide) rfl) (hw.r wr_40_0) ?_
        refine r_getI ((hp 101).trans rfl) (hw.o (i := 30) (by decide) rfl) ?_
        obtain ⟨c4, H⟩ := H
        refine r_iald ((hp 104).trans rfl) (hw.a (i := 41) (by decide) rfl c4.1 c4.2) ?_
        exact am_R.ret ((hp 105).trans rfl) rfl H
      · have H := H.2 (Decidable.not_not.mp c5)
        refine am_R.next ((hp 49).trans rfl) rfl ?_
        refine am_R.next (lv' := [some (.inr (.inr ((40 : Nat) : Int))), some (.inl 0), some (.inl x2), none]) ((hp 50).trans rfl) rfl ?_
        refine am_R.next ((hp 51).trans rfl) rfl ?_
        refine am_R.next (lv' := [some (.inr (.inr ((40 : Nat) : Int))), some (.inl 0), some (.inl x2), some (.inl 0)]) ((hp 52).trans rfl) rfl ?_
        exact H
theorem w_Search_forcedIn_53 {scr : Nat × (Nat → Int)} {d : Nat} {h : am_H} {Q : Option am_V → am_H → Prop} {x1 x2 x3 : Int} (hs : am_sc scr) (hw : wf h) (H : (¬ (x3 < (h.2.2.2 30 7)) → (∀ y1 : Int, y1 = am_w (x2 + 1) → (am_R (am_prog scr) (d + 1) f_Search_forcedIn 22 [some (.inr (.inr ((40 : Nat) : Int))), some (.inl x1), some (.inl y1), none] [] h Q))) ∧ (x3 < (h.2.2.2 30 7) → ((0 ≤ x3 ∧ x3 < 180) ∧ (am_R (am_prog scr) d f_Search_forceWithin 0 [some (.inr (.inr ((40 : Nat) : Int))), some (.inl (h.2.2.2 36 x3.toNat)), some (.inl x2), none] [] h (fun v g3 => ∃ r4 : Int, v = some (.inl r4) ∧ wf g3 ∧ (∀ y5 : Int, y5 = am_or x1 r4 → (∀ y6 : Int, y6 = am_w (x3 + 1) → (am_R (am_prog scr) (d + 1) f_Search_forcedIn 53 [some (.inr (.inr ((40 : Nat) : Int))), some (.inl y5), some (.inl x2), some (.inl y6)] [] g3 Q)))))))) : am_R (am_prog scr) (d + 1) f_Search_forcedIn 53 [some (.inr (.inr ((40 : Nat) : Int))), some (.inl x1), some (.inl x2), some (.inl x3)] [] h Q := by
  have hp : ∀ k, (am_prog scr).1 f_Search_forcedIn k = c_Search_forcedIn k := fun _ => rfl
  refine am_R.next ((hp 53).trans rfl) rfl ?_
  refine am_R.next ((hp 54).trans rfl) rfl ?_
  refine r_getR ((hp 55).trans rfl) (hw.o (i := 40) (by decide) rfl) (hw.r wr_40_0) ?_
  refine r_getI ((hp 58).trans rfl) (hw.o (i := 30) (by decide) rfl) ?_
  refine r_ic ((hp 61).trans rfl) (fun c7 => ?_) (fun c7 => ?_)
  · have H := H.1 c7
    obtain ⟨y1, ey1⟩ : ∃ z : Int, z = am_w (x2 + 1) := ⟨_, rfl⟩
    have H := H y1 ey1
    refine am_R.next (lv' := [some (.inr (.inr ((40 : Nat) : Int))), some (.inl x1), some (.inl y1), some (.inl x3)]) (st' := []) (h' := h) (pc' := 90) ((hp 87).trans rfl) (by rw [ey1]; rfl) ?_
    refine am_R.next ((hp 90).trans rfl) rfl ?_
    exact r_le hs in_251 (le_k (le_k (le_k (le_d le_n)))) H
  · have H := H.2 (Decidable.not_not.mp c7)
    refine am_R.next ((hp 64).trans rfl) rfl ?_
    refine am_R.next ((hp 65).trans rfl) rfl ?_
    refine am_R.next ((hp 66).trans rfl) rfl ?_
    refine r_getR ((hp 67).trans rfl) (hw.o (i := 40) (by decide) rfl) (hw.r wr_40_0) ?_
    refine r_getR ((hp 70).trans rfl) (hw.o (i := 30) (by decide) rfl) (hw.r wr_30_6) ?_
    refine am_R.next ((hp 73).trans rfl) rfl ?_
    obtain ⟨c2, H⟩ := H
    refine r_iald ((hp 74).trans rfl) (hw.a (i := 36) (by decide) rfl c2.1 c2.2) ?_
    refine am_R.next ((hp 75).trans rfl) rfl ?_
    refine r_cv (bs := [.inl (h.2.2.2 36 x3.toNat), .inl x2]) (st' := [.inl x1]) ((hp 76).trans rfl) (hw.o (i := 40) (by decide) rfl) rfl rfl (Nat.le_of_ble_eq_true rfl) (Nat.le_of_ble_eq_true rfl) (am_R.post H (fun v g3 hq => ?_))
    obtain ⟨r4, rfl, hw, H⟩ := hq
    change am_R _ _ _ _ _ [.inl r4, .inl x1] _ _
    refine am_R.next ((hp 79).trans rfl) rfl ?_
    obtain ⟨y5, ey5⟩ : ∃ z : Int, z = am_or x1 r4 := ⟨_, rfl⟩
    have H := H y5 ey5
    refine am_R.next (lv' := [some (.inr (.inr ((40 : Nat) : Int))), some (.inl y5), some (.inl x2), some (.inl x3)]) (st' := []) (h' := g3) (pc' := 81) ((hp 80).trans rfl) (by rw [ey5]; rfl) ?_
    obtain ⟨y6, ey6⟩ : ∃ z : Int, z = am_w (x3 + 1) := ⟨_, rfl⟩
    have H := H y6 ey6
    refine am_R.next (lv' := [some (.inr (.inr ((40 : Nat) : Int))), some (.inl y5), some (.inl x2), some (.inl y6)]) (st' := []) (h' := g3) (pc' := 84) ((hp 81).trans rfl) (by rw [ey6]; rfl) ?_
    refine am_R.next ((hp 84).trans rfl) rfl ?_
    exact H
theorem w_Search_forceWithin_0 {scr : Nat × (Nat → Int)} {d : Nat} {h : am_H} {Q : Option am_V → am_H → Prop} {x1 x2 : Int} (hs : am_sc scr) (hw : wf h) (H : (0 ≤ x1 ∧ x1 < 185) ∧ ((¬ ((h.2.2.2 41 x1.toNat) = (-1)) → (am_R (am_prog scr) (d + 1) f_Search_forceWithin 37 [some (.inr (.inr ((40 : Nat) : Int))), some (.inl x1), some (.inl x2), some (.inl 0)] [] h Q)) ∧ ((h.2.2.2 41 x1.toNat) = (-1) → (am_R (am_prog scr) d f_Search_deedTo 0 [some (.inr (.inr ((40 : Nat) : Int))), some (.inr (.inr ((42 : Nat) : Int))), some (.inl x1), some (.inl (am_w (x2 - 1))), none] [] h (fun v g2 => ∃ r3 : Int, v = some (.inl r3) ∧ wf g2 ∧ ((r3 = (-1) → (am_R (am_prog scr) (d + 1) f_Search_forceWithin 37 [some (.inr (.inr ((40 : Nat) : Int))), some (.inl x1), some (.inl x2), some (.inl 0)] [] g2 Q)) ∧ (¬ (r3 = (-1)) → (((0 ≤ x1 ∧ x1 < 185)) ∧ (∀ h5 : am_H, h5 = am_put g2 41 x1.toNat x2 → (am_R (am_prog scr) (d + 1) f_Search_forceWithin 37 [some (.inr (.inr ((40 : Nat) : Int))), some (.inl x1), some (.inl x2), some (.inl 1)] [] h5 Q)))))))))) : am_R (am_prog scr) (d + 1) f_Search_forceWithin 0 [some (.inr (.inr ((40 : Nat) : Int))), some (.inl x1), some (.inl x2), none] [] h Q := by
  have hp : ∀ k, (am_prog scr).1 f_Search_forceWithin k = c_Search_forceWithin k := fun _ => rfl
  refine am_R.next ((hp 0).trans rfl) rfl ?_
  refine am_R.next (lv' := [some (.inr (.inr ((40 : Nat) : Int))), some (.inl x1), some (.inl x2), some (.inl 0)]) ((hp 1).trans rfl) rfl ?_
  refine am_R.next ((hp 2).trans rfl) rfl ?_
  refine r_getR ((hp 3).trans rfl) (hw.o (i := 40) (by decide) rfl) (hw.r wr_40_1) ?_
  refine am_R.next ((hp 6).trans rfl) rfl ?_
  obtain ⟨c1, H⟩ := H
  refine r_iald ((hp 7).trans rfl) (hw.a (i := 41) (by decide) rfl c1.1 c1.2) ?_
  refine am_R.next ((hp 8).trans rfl) rfl ?_
  refine r_ic ((hp 9).trans rfl) (fun c7 => ?_) (fun c7 => ?_)
  · have H := H.1 c7
    exact H
  · have H := H.2 (Decidable.not_not.mp c7)
    refine am_R.next ((hp 12).trans rfl) rfl ?_
    refine am_R.next ((hp 13).trans rfl) rfl ?_
    refine r_getR ((hp 14).trans rfl) (hw.o (i := 40) (by decide) rfl) (hw.r wr_40_2) ?_
    refine am_R.next ((hp 17).trans rfl) rfl ?_
    refine am_R.next ((hp 18).trans rfl) rfl ?_
    refine am_R.next ((hp 19).trans rfl) rfl ?_
    refine am_R.next ((hp 20).trans rfl) rfl ?_
    refine r_cv (bs := [.inr (.inr ((42 : Nat) : Int)), .inl x1, .inl (am_w (x2 - 1))]) (st' := []) ((hp 21).trans rfl) (hw.o (i := 40) (by decide) rfl) rfl rfl (Nat.le_of_ble_eq_true rfl) (Nat.le_of_ble_eq_true rfl) (am_R.post H (fun v g2 hq => ?_))
    obtain ⟨r3, rfl, hw, H⟩ := hq
    change am_R _ _ _ _ _ [.inl r3] _ _
    refine am_R.next ((hp 24).trans rfl) rfl ?_
    refine r_ic ((hp 25).trans rfl) (fun c6 => ?_) (fun c6 => ?_)
    · have H := H.1 c6
      exact H
    · have H := H.2 c6
      refine am_R.next ((hp 28).trans rfl) rfl ?_
      refine r_getR ((hp 29).trans rfl) (hw.o (i := 40) (by decide) rfl) (hw.r wr_40_1) ?_
      refine am_R.next ((hp 32).trans rfl) rfl ?_
      refine am_R.next ((hp 33).trans rfl) rfl ?_
      obtain ⟨c4, H⟩ := H
      obtain ⟨h5, eh5⟩ : ∃ z : am_H, z = am_put g2 41 x1.toNat x2 := ⟨_, rfl⟩
      have H := H h5 eh5
      refine r_iast ((hp 34).trans rfl) (hw.a (i := 41) (by decide) rfl c4.1 c4.2) ?_
      have hw : wf h5 := by rw [eh5]; exact hw.pa na_41
      change am_R _ _ _ _ _ _ (am_put g2 41 x1.toNat x2) _
      rw [← eh5]
      refine am_R.next ((hp 35).trans rfl) rfl ?_
      refine am_R.next (lv' := [some (.inr (.inr ((40 : Nat) : Int))), some (.inl x1), some (.inl x2), some (.inl 1)]) ((hp 36).trans rfl) rfl ?_
      exact H
theorem w_Search_forceWithin_37 {scr : Nat × (Nat → Int)} {d : Nat} {h : am_H} {Q : Option am_V → am_H → Prop} {x1 x2 x3 : Int} (hs : am_sc scr) (hw : wf h) (H : (0 ≤ x1 ∧ x1 < 185) ∧ ((¬ ((h.2.2.2 42 x1.toNat) = (-1)) → ((x3 = 0 ∨ x3 = 1) ∧ Q (some (.inl x3)) h)) ∧ ((h.2.2.2 42 x1.toNat) = (-1) → (am_R (am_prog scr) d f_Search_allLeadBelow 0 [some (.inr (.inr ((40 : Nat) : Int))), some (.inl x1), some (.inl x2), none, none] [] h (fun v g3 => ∃ r4 : Int, v = some (.inl r4) ∧ wf g3 ∧ ((r4 = 0 → ((x3 = 0 ∨ x3 = 1) ∧ Q (some (.inl x3)) g3)) ∧ (¬ (r4 = 0) → (((0 ≤ x1 ∧ x1 < 185)) ∧ (∀ h7 : am_H, h7 = am_put g3 42 x1.toNat x2 → (Q (some (.inl 1)) h7)))))))))) : am_R (am_prog scr) (d + 1) f_Search_forceWithin 37 [some (.inr (.inr ((40 : Nat) : Int))), some (.inl x1), some (.inl x2), some (.inl x3)] [] h Q := by
  have hp : ∀ k, (am_prog scr).1 f_Search_forceWithin k = c_Search_forceWithin k := fun _ => rfl
  refine am_R.next ((hp 37).trans rfl) rfl ?_
  refine r_getR ((hp 38).trans rfl) (hw.o (i := 40) (by decide) rfl) (hw.r wr_40_2) ?_
  refine am_R.next ((hp 41).trans rfl) rfl ?_
  obtain ⟨c1, H⟩ := H
  refine r_iald ((hp 42).trans rfl) (hw.a (i := 42) (by decide) rfl c1.1 c1.2) ?_
  refine am_R.next ((hp 43).trans rfl) rfl ?_
  refine r_ic ((hp 44).trans rfl) (fun c9 => ?_) (fun c9 => ?_)
  · have H := H.1 c9
    refine am_R.next ((hp 65).trans rfl) rfl ?_
    obtain ⟨c2, H⟩ := H
    exact r_zret ((hp 66).trans rfl) c2 H
  · have H := H.2 (Decidable.not_not.mp c9)
    refine am_R.next ((hp 47).trans rfl) rfl ?_
    refine am_R.next ((hp 48).trans rfl) rfl ?_
    refine am_R.next ((hp 49).trans rfl) rfl ?_
    refine r_cv (bs := [.inl x1, .inl x2]) (st' := []) ((hp 50).trans rfl) (hw.o (i := 40) (by decide) rfl) rfl rfl (Nat.le_of_ble_eq_true rfl) (Nat.le_of_ble_eq_true rfl) (am_R.post H (fun v g3 hq => ?_))
    obtain ⟨r4, rfl, hw, H⟩ := hq
    change am_R _ _ _ _ _ [.inl r4] _ _
    refine r_if ((hp 53).trans rfl) (fun c8 => ?_) (fun c8 => ?_)
    · have H := H.1 c8
      refine am_R.next ((hp 65).trans rfl) rfl ?_
      obtain ⟨c5, H⟩ := H
      exact r_zret ((hp 66).trans rfl) c5 H
    · have H := H.2 c8
      refine am_R.next ((hp 56).trans rfl) rfl ?_
      refine r_getR ((hp 57).trans rfl) (hw.o (i := 40) (by decide) rfl) (hw.r wr_40_2) ?_
      refine am_R.next ((hp 60).trans rfl) rfl ?_
      refine am_R.next ((hp 61).trans rfl) rfl ?_
      obtain ⟨c6, H⟩ := H
      obtain ⟨h7, eh7⟩ : ∃ z : am_H, z = am_put g3 42 x1.toNat x2 := ⟨_, rfl⟩
      have H := H h7 eh7
      refine r_iast ((hp 62).trans rfl) (hw.a (i := 42) (by decide) rfl c6.1 c6.2) ?_
      have hw : wf h7 := by rw [eh7]; exact hw.pa na_42
      change am_R _ _ _ _ _ _ (am_put g3 42 x1.toNat x2) _
      rw [← eh7]
      refine am_R.next ((hp 63).trans rfl) rfl ?_
      refine am_R.next (lv' := [some (.inr (.inr ((40 : Nat) : Int))), some (.inl x1), some (.inl x2), some (.inl 1)]) ((hp 64).trans rfl) rfl ?_
      refine am_R.next ((hp 65).trans rfl) rfl ?_
      exact r_zret ((hp 66).trans rfl) (Or.inr rfl) H
theorem w_Search_allLeadBelow_0 {scr : Nat × (Nat → Int)} {d : Nat} {h : am_H} {Q : Option am_V → am_H → Prop} {x1 x2 : Int} (hs : am_sc scr) (hw : wf h) (H : am_R (am_prog scr) (d + 1) f_Search_allLeadBelow 2 [some (.inr (.inr ((40 : Nat) : Int))), some (.inl x1), some (.inl x2), some (.inl 0), none] [] h Q) : am_R (am_prog scr) (d + 1) f_Search_allLeadBelow 0 [some (.inr (.inr ((40 : Nat) : Int))), some (.inl x1), some (.inl x2), none, none] [] h Q := by
  have hp : ∀ k, (am_prog scr).1 f_Search_allLeadBelow k = c_Search_allLeadBelow k := fun _ => rfl
  refine am_R.next ((hp 0).trans rfl) rfl ?_
  refine am_R.next (lv' := [some (.inr (.inr ((40 : Nat) : Int))), some (.inl x1), some (.inl x2), some (.inl 0), none]) ((hp 1).trans rfl) rfl ?_
  exact H
theorem w_Search_allLeadBelow_2 {scr : Nat × (Nat → Int)} {d : Nat} {h : am_H} {Q : Option am_V → am_H → Prop} {x1 x2 x3 : Int} (hs : am_sc scr) (hw : wf h) (H : am_R (am_prog scr) d f_Graph_sleepers 0 [some (.inr (.inr ((30 : Nat) : Int)))] [] h (fun v g1 => ∃ r2 : Int, v = some (.inl r2) ∧ wf g1 ∧ ((r2 < x3 → (Q (some (.inl 1)) g1)) ∧ (¬ (r2 < x3) → (am_R (am_prog scr) d f_Graph_after 0 [some (.inr (.inr ((30 : Nat) : Int))), some (.inl x1), some (.inl x3), none] [] g1 (fun v g3 => ∃ r4 : Int, v = some (.inl r4) ∧ wf g3 ∧ ((0 ≤ r4 ∧ r4 < 185) ∧ (∀ y6 : Int, y6 = g3.2.2.2 41 r4.toNat → ((y6 = (-1) → (Q (some (.inl 0)) g3)) ∧ (¬ (y6 = (-1)) → ((y6 < x2 → (∀ y7 : Int, y7 = am_w (x3 + 1) → (am_R (am_prog scr) (d + 1) f_Search_allLeadBelow 2 [some (.inr (.inr ((40 : Nat) : Int))), some (.inl x1), some (.inl x2), some (.inl y7), none] [] g3 Q))) ∧ (¬ (y6 < x2) → (Q (some (.inl 0)) g3))))))))))))) : am_R (am_prog scr) (d + 1) f_Search_allLeadBelow 2 [some (.inr (.inr ((40 : Nat) : Int))), some (.inl x1), some (.inl x2), some (.inl x3), none] [] h Q := by
  have hp : ∀ k, (am_prog scr).1 f_Search_allLeadBelow k = c_Search_allLeadBelow k := fun _ => rfl
  refine am_R.next ((hp 2).trans rfl) rfl ?_
  refine am_R.next ((hp 3).trans rfl) rfl ?_
  refine r_getR ((hp 4).trans rfl) (hw.o (i := 40) (by decide) rfl) (hw.r wr_40_0) ?_
  refine r_cv (bs := []) (st' := [.inl x3]) ((hp 7).trans rfl) (hw.o (i := 30) (by decide) rfl) rfl rfl (Nat.le_of_ble_eq_true rfl) (Nat.le_of_ble_eq_true rfl) (am_R.post H (fun v g1 hq => ?_))
  obtain ⟨r2, rfl, hw, H⟩ := hq
  change am_R _ _ _ _ _ [.inl r2, .inl x3] _ _
  refine r_ic ((hp 10).trans rfl) (fun c10 => ?_) (fun c10 => ?_)
  · have H := H.1 c10
    refine am_R.next ((hp 49).trans rfl) rfl ?_
    exact r_zret ((hp 50).trans rfl) (Or.inr rfl) H
  · have H := H.2 c10
    refine am_R.next ((hp 13).trans rfl) rfl ?_
    refine r_getR ((hp 14).trans rfl) (hw.o (i := 40) (by decide) rfl) (hw.r wr_40_1) ?_
    refine am_R.next ((hp 17).trans rfl) rfl ?_
    refine r_getR ((hp 18).trans rfl) (hw.o (i := 40) (by decide) rfl) (hw.r wr_40_0) ?_
    refine am_R.next ((hp 21).trans rfl) rfl ?_
    refine am_R.next ((hp 22).trans rfl) rfl ?_
    refine r_cv (bs := [.inl x1, .inl x3]) (st' := [.inr (.inr ((41 : Nat) : Int))]) ((hp 23).trans rfl) (hw.o (i := 30) (by decide) rfl) rfl rfl (Nat.le_of_ble_eq_true rfl) (Nat.le_of_ble_eq_true rfl) (am_R.post H (fun v g3 hq => ?_))
    obtain ⟨r4, rfl, hw, H⟩ := hq
    change am_R _ _ _ _ _ [.inl r4, .inr (.inr ((41 : Nat) : Int))] _ _
    obtain ⟨c5, H⟩ := H
    refine r_iald ((hp 26).trans rfl) (hw.a (i := 41) (by decide) rfl c5.1 c5.2) ?_
    obtain ⟨y6, ey6⟩ : ∃ z : Int, z = g3.2.2.2 41 r4.toNat := ⟨_, rfl⟩
    have H := H y6 ey6
    refine am_R.next (lv' := [some (.inr (.inr ((40 : Nat) : Int))), some (.inl x1), some (.inl x2), some (.inl x3), some (.inl y6)]) (st' := []) (h' := g3) (pc' := 29) ((hp 27).trans rfl) (by rw [ey6]; rfl) ?_
    refine am_R.next ((hp 29).trans rfl) rfl ?_
    refine am_R.next ((hp 31).trans rfl) rfl ?_
    refine r_ic ((hp 32).trans rfl) (fun c9 => ?_) (fun c9 => ?_)
    · have H := H.1 c9
      refine am_R.next ((hp 41).trans rfl) rfl ?_
      exact r_zret ((hp 42).trans rfl) (Or.inl rfl) H
    · have H := H.2 c9
      refine am_R.next ((hp 35).trans rfl) rfl ?_
      refine am_R.next ((hp 37).trans rfl) rfl ?_
      refine r_ic ((hp 38).trans rfl) (fun c8 => ?_) (fun c8 => ?_)
      · have H := H.1 c8
        obtain ⟨y7, ey7⟩ : ∃ z : Int, z = am_w (x3 + 1) := ⟨_, rfl⟩
        have H := H y7 ey7
        refine am_R.next (lv' := [some (.inr (.inr ((40 : Nat) : Int))), some (.inl x1), some (.inl x2), some (.inl y7), some (.inl y6)]) (st' := []) (h' := g3) (pc' := 46) ((hp 43).trans rfl) (by rw [ey7]; rfl) ?_
        refine am_R.next ((hp 46).trans rfl) rfl ?_
        exact r_le hs in_253 (le_k (le_k (le_k (le_k (le_d le_n))))) H
      · have H := H.2 c8
        refine am_R.next ((hp 41).trans rfl) rfl ?_
        exact r_zret ((hp 42).trans rfl) (Or.inl rfl) H
theorem w_Search_forcingDeed_0 {scr : Nat × (Nat → Int)} {d : Nat} {h : am_H} {Q : Option am_V → am_H → Prop} (hs : am_sc scr) (hw : wf h) (H : am_R (am_prog scr) d f_Search_forcedIn 0 [some (.inr (.inr ((40 : Nat) : Int))), none, none, none] [] h (fun v g1 => ∃ r2 : Int, v = some (.inl r2) ∧ wf g1 ∧ ((r2 ≤ 0 → (Q (some (.inl (-1))) g1)) ∧ (¬ (r2 ≤ 0) → (am_R (am_prog scr) d f_Search_deedTo 0 [some (.inr (.inr ((40 : Nat) : Int))), some (.inr (.inr ((42 : Nat) : Int))), some (.inl (g1.2.2.2 30 5)), some (.inl (am_w (r2 - 1))), none] [] g1 (fun v g3 => ∃ r4 : Int, v = some (.inl r4) ∧ wf g3 ∧ (Q (some (.inl r4)) g3))))))) : am_R (am_prog scr) (d + 1) f_Search_forcingDeed 0 [some (.inr (.inr ((40 : Nat) : Int))), none] [] h Q := by
  have hp : ∀ k, (am_prog scr).1 f_Search_forcingDeed k = c_Search_forcingDeed k := fun _ => rfl
  refine am_R.next ((hp 0).trans rfl) rfl ?_
  refine r_cv (bs := []) (st' := []) ((hp 1).trans rfl) (hw.o (i := 40) (by decide) rfl) rfl rfl (Nat.le_of_ble_eq_true rfl) (Nat.le_of_ble_eq_true rfl) (am_R.post H (fun v g1 hq => ?_))
  obtain ⟨r2, rfl, hw, H⟩ := hq
  change am_R _ _ _ _ _ [.inl r2] _ _
  refine am_R.next (lv' := [some (.inr (.inr ((40 : Nat) : Int))), some (.inl r2)]) ((hp 4).trans rfl) rfl ?_
  refine am_R.next ((hp 5).trans rfl) rfl ?_
  refine r_if ((hp 6).trans rfl) (fun c5 => ?_) (fun c5 => ?_)
  · have H := H.1 c5
    refine am_R.next ((hp 30).trans rfl) rfl ?_
    exact am_R.ret ((hp 31).trans rfl) rfl H
  · have H := H.2 c5
    refine am_R.next ((hp 9).trans rfl) rfl ?_
    refine am_R.next ((hp 10).trans rfl) rfl ?_
    refine r_getR ((hp 11).trans rfl) (hw.o (i := 40) (by decide) rfl) (hw.r wr_40_2) ?_
    refine am_R.next ((hp 14).trans rfl) rfl ?_
    refine r_getR ((hp 15).trans rfl) (hw.o (i := 40) (by decide) rfl) (hw.r wr_40_0) ?_
    refine r_getI ((hp 18).trans rfl) (hw.o (i := 30) (by decide) rfl) ?_
    refine am_R.next ((hp 21).trans rfl) rfl ?_
    refine am_R.next ((hp 22).trans rfl) rfl ?_
    refine am_R.next ((hp 23).trans rfl) rfl ?_
    refine r_cv (bs := [.inr (.inr ((42 : Nat) : Int)), .inl (g1.2.2.2 30 5), .inl (am_w (r2 - 1))]) (st' := []) ((hp 24).trans rfl) (hw.o (i := 40) (by decide) rfl) rfl rfl (Nat.le_of_ble_eq_true rfl) (Nat.le_of_ble_eq_true rfl) (am_R.post H (fun v g3 hq => ?_))
    obtain ⟨r4, rfl, hw, H⟩ := hq
    change am_R _ _ _ _ _ [.inl r4] _ _
    refine am_R.next ((hp 27).trans rfl) rfl ?_
    exact am_R.ret ((hp 31).trans rfl) rfl H
theorem w_Stage_isBeat_0 {scr : Nat × (Nat → Int)} {d : Nat} {h : am_H} {Q : Option am_V → am_H → Prop} {x0 : Int} (hs : am_sc scr) (hw : wf h) (H : (x0 < 0 → (Q (some (.inl 0)) h)) ∧ (¬ (x0 < 0) → ((¬ (x0 < 10) → (Q (some (.inl 0)) h)) ∧ (x0 < 10 → (Q (some (.inl 1)) h))))) : am_R (am_prog scr) d f_Stage_isBeat 0 [some (.inr (.inl x0)), none] [] h Q := by
  have hp : ∀ k, (am_prog scr).1 f_Stage_isBeat k = c_Stage_isBeat k := fun _ => rfl
  refine am_R.next ((hp 0).trans rfl) rfl ?_
  refine am_R.next ((hp 1).trans rfl) rfl ?_
  refine am_R.next ((hp 2).trans rfl) rfl ?_
  refine r_if ((hp 3).trans rfl) (fun c2 => ?_) (fun c2 => ?_)
  · have H := H.1 (lc_ltt c2)
    refine am_R.next ((hp 18).trans rfl) rfl ?_
    exact r_zret ((hp 19).trans rfl) (Or.inl rfl) H
  · have H := H.2 (lc_ltf c2)
    refine am_R.next ((hp 6).trans rfl) rfl ?_
    refine am_R.next ((hp 7).trans rfl) rfl ?_
    refine am_R.next ((hp 10).trans rfl) rfl ?_
    refine r_if ((hp 11).trans rfl) (fun c1 => ?_) (fun c1 => ?_)
    · have H := H.1 (lc_get c1)
      refine am_R.next ((hp 18).trans rfl) rfl ?_
      exact r_zret ((hp 19).trans rfl) (Or.inl rfl) H
    · have H := H.2 (lc_gef c1)
      refine am_R.next ((hp 14).trans rfl) rfl ?_
      refine am_R.next ((hp 15).trans rfl) rfl ?_
      exact r_zret ((hp 19).trans rfl) (Or.inr rfl) H
theorem w_Stage_whyNot_0 {scr : Nat × (Nat → Int)} {d : Nat} {h : am_H} {Q : Option am_V → am_H → Prop} {x2 : Int} {p1 : Nat} (hp1 : p1 ∈ PL) (hs : am_sc scr) (hw : wf h) (H : am_R (am_prog scr) d f_Stage_isBeat 0 [some (.inr (.inl x2)), none] [] h (fun v g1 => ∃ r2 : Int, v = some (.inl r2) ∧ wf g1 ∧ ((r2 = 0 → ((x2 < 10 → (am_R (am_prog scr) (d + 1) f_Stage_whyNot 53 [some (.inr (.inr ((9 : Nat) : Int))), some (.inr (.inr ((p1 : Nat) : Int))), some (.inr (.inl x2)), none, none, none] [] g1 Q)) ∧ (¬ (x2 < 10) → ((¬ (x2 < 20) → (am_R (am_prog scr) (d + 1) f_Stage_whyNot 53 [some (.inr (.inr ((9 : Nat) : Int))), some (.inr (.inr ((p1 : Nat) : Int))), some (.inr (.inl x2)), none, none, none] [] g1 Q)) ∧ (x2 < 20 → (Q (some (.inl 0)) g1)))))) ∧ (¬ (r2 = 0) → (am_isO g1 (g1.2.2.2 p1 0) 1 ∧ ((¬ ((g1.2.2.2 ((g1.2.2.2 p1 0).toNat) 4) < x2) → (am_R (am_prog scr) d f_Play_goesOn 0 [some (.inr (.inr ((p1 : Nat) : Int)))] [] g1 (fun v g6 => ∃ r7 : Int, v = some (.inl r7) ∧ wf g6 ∧ ((r7 = 0 → (Q (some (.inl 2)) g6)) ∧ (¬ (r7 = 0) → (Q (some (.inl 0)) g6)))))) ∧ ((g1.2.2.2 ((g1.2.2.2 p1 0).toNat) 4) < x2 → (Q (some (.inl 1)) g1)))))))) : am_R (am_prog scr) (d + 1) f_Stage_whyNot 0 [some (.inr (.inr ((9 : Nat) : Int))), some (.inr (.inr ((p1 : Nat) : Int))), some (.inr (.inl x2)), none, none, none] [] h Q := by
  have hp : ∀ k, (am_prog scr).1 f_Stage_whyNot k = c_Stage_whyNot k := fun _ => rfl
  refine am_R.next ((hp 0).trans rfl) rfl ?_
  refine r_cs (as := [.inr (.inl x2)]) (st' := []) ((hp 1).trans rfl) rfl rfl (Nat.le_of_ble_eq_true rfl) (Nat.le_of_ble_eq_true rfl) (am_R.post H (fun v g1 hq => ?_))
  obtain ⟨r2, rfl, hw, H⟩ := hq
  change am_R _ _ _ _ _ [.inl r2] _ _
  refine r_if ((hp 4).trans rfl) (fun c10 => ?_) (fun c10 => ?_)
  · have H := H.1 c10
    refine am_R.next ((hp 35).trans rfl) rfl ?_
    refine am_R.next ((hp 36).trans rfl) rfl ?_
    refine am_R.next ((hp 39).trans rfl) rfl ?_
    refine r_if ((hp 40).trans rfl) (fun c4 => ?_) (fun c4 => ?_)
    · have H := H.1 (lc_ltt c4)
      exact H
    · have H := H.2 (lc_ltf c4)
      refine am_R.next ((hp 43).trans rfl) rfl ?_
      refine am_R.next ((hp 44).trans rfl) rfl ?_
      refine am_R.next ((hp 47).trans rfl) rfl ?_
      refine r_if ((hp 48).trans rfl) (fun c3 => ?_) (fun c3 => ?_)
      · have H := H.1 (lc_get c3)
        exact H
      · have H := H.2 (lc_gef c3)
        refine am_R.next ((hp 51).trans rfl) rfl ?_
        exact am_R.ret ((hp 52).trans rfl) rfl H
  · have H := H.2 c10
    refine am_R.next ((hp 7).trans rfl) rfl ?_
    refine am_R.next ((hp 8).trans rfl) rfl ?_
    refine r_getR ((hp 9).trans rfl) (pl_o hp1 hw) rfl ?_
    obtain ⟨c5, H⟩ := H
    refine r_getI ((hp 12).trans rfl) c5 ?_
    refine am_R.next ((hp 15).trans rfl) rfl ?_
    refine am_R.next ((hp 16).trans rfl) rfl ?_
    refine r_if ((hp 17).trans rfl) (fun c9 => ?_) (fun c9 => ?_)
    · have H := H.1 (lc_let c9)
      refine am_R.next ((hp 22).trans rfl) rfl ?_
      refine r_cv (bs := []) (st' := []) ((hp 23).trans rfl) (pl_o hp1 hw) rfl rfl (Nat.le_of_ble_eq_true rfl) (Nat.le_of_ble_eq_true rfl) (am_R.post H (fun v g6 hq => ?_))
      obtain ⟨r7, rfl, hw, H⟩ := hq
      change am_R _ _ _ _ _ [.inl r7] _ _
      refine r_if ((hp 26).trans rfl) (fun c8 => ?_) (fun c8 => ?_)
      · have H := H.1 c8
        refine am_R.next ((hp 33).trans rfl) rfl ?_
        exact am_R.ret ((hp 34).trans rfl) rfl H
      · have H := H.2 c8
        refine am_R.next ((hp 29).trans rfl) rfl ?_
        refine am_R.next ((hp 30).trans rfl) rfl ?_
        exact am_R.ret ((hp 34).trans rfl) rfl H
    · have H := H.2 (lc_lef c9)
      refine am_R.next ((hp 20).trans rfl) rfl ?_
      exact am_R.ret ((hp 21).trans rfl) rfl H
theorem w_Stage_whyNot_53 {scr : Nat × (Nat → Int)} {d : Nat} {h : am_H} {Q : Option am_V → am_H → Prop} {x2 : Int} {p1 : Nat} (hp1 : p1 ∈ PL) (hs : am_sc scr) (hw : wf h) (H : (x2 < 100 → (Q (some (.inl 1)) h)) ∧ (¬ (x2 < 100) → ((x2 < 300 → (∀ y1 : Int, y1 = (am_w ((am_w x2).tdiv 10)).tmod 10 → (am_R (am_prog scr) d f_Play_has 0 [some (.inr (.inr ((p1 : Nat) : Int))), some (.inl y1)] [] h (fun v g2 => ∃ r3 : Int, v = some (.inl r3) ∧ wf g2 ∧ ((¬ (r3 = 0) → (∀ y4 : Int, y4 = (am_w x2).tmod 10 → ((¬ (x2 < 200) → (Q (some (.inl 0)) g2)) ∧ (x2 < 200 → (am_R (am_prog scr) d f_Play_has 0 [some (.inr (.inr ((p1 : Nat) : Int))), some (.inl y4)] [] g2 (fun v g5 => ∃ r6 : Int, v = some (.inl r6) ∧ wf g5 ∧ ((r6 = 0 → (Q (some (.inl 1)) g5)) ∧ (¬ (r6 = 0) → ((y4 = y1 → (Q (some (.inl 1)) g5)) ∧ (¬ (y4 = y1) → (Q (some (.inl 0)) g5))))))))))) ∧ (r3 = 0 → (Q (some (.inl 1)) g2))))))) ∧ (¬ (x2 < 300) → (Q (some (.inl 1)) h))))) : am_R (am_prog scr) (d + 1) f_Stage_whyNot 53 [some (.inr (.inr ((9 : Nat) : Int))), some (.inr (.inr ((p1 : Nat) : Int))), some (.inr (.inl x2)), none, none, none] [] h Q := by
  have hp : ∀ k, (am_prog scr).1 f_Stage_whyNot k = c_Stage_whyNot k := fun _ => rfl
  refine am_R.next ((hp 53).trans rfl) rfl ?_
  refine am_R.next ((hp 54).trans rfl) rfl ?_
  refine am_R.next ((hp 57).trans rfl) rfl ?_
  refine r_if ((hp 58).trans rfl) (fun c12 => ?_) (fun c12 => ?_)
  · have H := H.1 (lc_ltt c12)
    refine am_R.next ((hp 69).trans rfl) rfl ?_
    exact am_R.ret ((hp 70).trans rfl) rfl H
  · have H := H.2 (lc_ltf c12)
    refine am_R.next ((hp 61).trans rfl) rfl ?_
    refine am_R.next ((hp 62).trans rfl) rfl ?_
    refine am_R.next ((hp 65).trans rfl) rfl ?_
    refine r_if ((hp 66).trans rfl) (fun c11 => ?_) (fun c11 => ?_)
    · have H := H.1 (lc_ltt c11)
      refine am_R.next ((hp 71).trans rfl) rfl ?_
      refine am_R.next ((hp 72).trans rfl) rfl ?_
      refine am_R.next ((hp 73).trans rfl) rfl ?_
      refine r_i2z ((hp 75).trans rfl) (by decide) ?_
      refine am_R.next ((hp 76).trans rfl) rfl ?_
      refine r_i2z ((hp 78).trans rfl) (by decide) ?_
      obtain ⟨y1, ey1⟩ : ∃ z : Int, z = (am_w ((am_w x2).tdiv 10)).tmod 10 := ⟨_, rfl⟩
      have H := H y1 ey1
      refine am_R.next (lv' := [some (.inr (.inr ((9 : Nat) : Int))), some (.inr (.inr ((p1 : Nat) : Int))), some (.inr (.inl x2)), none, some (.inl y1), none]) (st' := []) (h' := h) (pc' := 81) ((hp 79).trans rfl) (by rw [ey1]; rfl) ?_
      refine am_R.next ((hp 81).trans rfl) rfl ?_
      refine am_R.next ((hp 82).trans rfl) rfl ?_
      refine r_cv (bs := [.inl y1]) (st' := []) ((hp 84).trans rfl) (pl_o hp1 hw) rfl rfl (Nat.le_of_ble_eq_true rfl) (Nat.le_of_ble_eq_true rfl) (am_R.post H (fun v g2 hq => ?_))
      obtain ⟨r3, rfl, hw, H⟩ := hq
      change am_R _ _ _ _ _ [.inl r3] _ _
      refine r_if ((hp 87).trans rfl) (fun c10 => ?_) (fun c10 => ?_)
      · have H := H.1 c10
        refine am_R.next ((hp 92).trans rfl) rfl ?_
        refine am_R.next ((hp 93).trans rfl) rfl ?_
        refine am_R.next ((hp 94).trans rfl) rfl ?_
        refine r_i2z ((hp 96).trans rfl) (by decide) ?_
        obtain ⟨y4, ey4⟩ : ∃ z : Int, z = (am_w x2).tmod 10 := ⟨_, rfl⟩
        have H := H y4 ey4
        refine am_R.next (lv' := [some (.inr (.inr ((9 : Nat) : Int))), some (.inr (.inr ((p1 : Nat) : Int))), some (.inr (.inl x2)), none, some (.inl y1), some (.inl y4)]) (st' := []) (h' := g2) (pc' := 99) ((hp 97).trans rfl) (by rw [ey4]; rfl) ?_
        refine am_R.next ((hp 99).trans rfl) rfl ?_
        refine am_R.next ((hp 100).trans rfl) rfl ?_
        refine am_R.next ((hp 103).trans rfl) rfl ?_
        refine r_if ((hp 104).trans rfl) (fun c9 => ?_) (fun c9 => ?_)
        · have H := H.1 (lc_get c9)
          refine am_R.next ((hp 123).trans rfl) rfl ?_
          refine am_R.next ((hp 124).trans rfl) rfl ?_
          exact am_R.ret ((hp 128).trans rfl) rfl H
        · have H := H.2 (lc_gef c9)
          refine am_R.next ((hp 107).trans rfl) rfl ?_
          refine am_R.next ((hp 108).trans rfl) rfl ?_
          refine r_cv (bs := [.inl y4]) (st' := []) ((hp 110).trans rfl) (pl_o hp1 hw) rfl rfl (Nat.le_of_ble_eq_true rfl) (Nat.le_of_ble_eq_true rfl) (am_R.post H (fun v g5 hq => ?_))
          obtain ⟨r6, rfl, hw, H⟩ := hq
          change am_R _ _ _ _ _ [.inl r6] _ _
          refine r_if ((hp 113).trans rfl) (fun c8 => ?_) (fun c8 => ?_)
          · have H := H.1 c8
            refine am_R.next ((hp 127).trans rfl) rfl ?_
            exact am_R.ret ((hp 128).trans rfl) rfl H
          · have H := H.2 c8
            refine am_R.next ((hp 116).trans rfl) rfl ?_
            refine am_R.next ((hp 118).trans rfl) rfl ?_
            refine r_ic ((hp 120).trans rfl) (fun c7 => ?_) (fun c7 => ?_)
            · have H := H.1 c7
              refine am_R.next ((hp 127).trans rfl) rfl ?_
              exact am_R.ret ((hp 128).trans rfl) rfl H
            · have H := H.2 c7
              refine am_R.next ((hp 123).trans rfl) rfl ?_
              refine am_R.next ((hp 124).trans rfl) rfl ?_
              exact am_R.ret ((hp 128).trans rfl) rfl H
      · have H := H.2 (Decidable.not_not.mp c10)
        refine am_R.next ((hp 90).trans rfl) rfl ?_
        exact am_R.ret ((hp 91).trans rfl) rfl H
    · have H := H.2 (lc_ltf c11)
      refine am_R.next ((hp 69).trans rfl) rfl ?_
      exact am_R.ret ((hp 70).trans rfl) rfl H
theorem w_Stage_enact_0 {scr : Nat × (Nat → Int)} {d : Nat} {h : am_H} {Q : Option am_V → am_H → Prop} {x2 : Int} {p1 : Nat} (hp1 : p1 ∈ PL) (hs : am_sc scr) (hw : wf h) (H : am_R (am_prog scr) d f_Stage_isBeat 0 [some (.inr (.inl x2)), none] [] h (fun v g1 => ∃ r2 : Int, v = some (.inl r2) ∧ wf g1 ∧ ((r2 = 0 → ((¬ (x2 < 100) → ((¬ (x2 < 200) → (((0 ≤ ((am_w (x2.tdiv 10)).tmod 10) ∧ ((am_w (x2.tdiv 10)).tmod 10) < 6)) ∧ (∀ h4 : am_H, h4 = am_put g1 (p1 + 2) (((am_w (x2.tdiv 10)).tmod 10).toNat) (x2.tmod 10) → (Q none h4)))) ∧ (x2 < 200 → (am_R (am_prog scr) d f_Play_swapBeds 0 [some (.inr (.inr ((p1 : Nat) : Int))), some (.inl ((am_w (x2.tdiv 10)).tmod 10)), some (.inl (x2.tmod 10)), none] [] g1 (fun v g5 => v = none ∧ wf g5 ∧ (Q none g5)))))) ∧ (x2 < 100 → (∀ h7 : am_H, h7 = am_put g1 p1 3 (am_w (x2 - 10)) → (Q none h7))))) ∧ (¬ (r2 = 0) → (am_R (am_prog scr) d f_Stage_step 0 [some (.inr (.inr ((9 : Nat) : Int))), some (.inr (.inr ((p1 : Nat) : Int))), some (.inl (am_w (x2 - 1))), none, none, none, none] [] g1 (fun v g9 => ∃ r10 : Int, v = some (.inl r10) ∧ wf g9 ∧ (Q none g9))))))) : am_R (am_prog scr) (d + 1) f_Stage_enact 0 [some (.inr (.inr ((9 : Nat) : Int))), some (.inr (.inr ((p1 : Nat) : Int))), some (.inl x2)] [] h Q := by
  have hp : ∀ k, (am_prog scr).1 f_Stage_enact k = c_Stage_enact k := fun _ => rfl
  refine am_R.next ((hp 0).trans rfl) rfl ?_
  refine am_R.next ((hp 1).trans rfl) rfl ?_
  refine r_cs (as := [.inr (.inl x2)]) (st' := []) ((hp 2).trans rfl) rfl rfl (Nat.le_of_ble_eq_true rfl) (Nat.le_of_ble_eq_true rfl) (am_R.post H (fun v g1 hq => ?_))
  obtain ⟨r2, rfl, hw, H⟩ := hq
  change am_R _ _ _ _ _ [.inl r2] _ _
  refine r_if ((hp 5).trans rfl) (fun c11 => ?_) (fun c11 => ?_)
  · have H := H.1 c11
    refine am_R.next ((hp 20).trans rfl) rfl ?_
    refine am_R.next ((hp 21).trans rfl) rfl ?_
    refine r_ic ((hp 23).trans rfl) (fun c8 => ?_) (fun c8 => ?_)
    · have H := H.1 c8
      refine am_R.next ((hp 37).trans rfl) rfl ?_
      refine am_R.next ((hp 38).trans rfl) rfl ?_
      refine r_ic ((hp 41).trans rfl) (fun c6 => ?_) (fun c6 => ?_)
      · have H := H.1 c6
        refine am_R.next ((hp 62).trans rfl) rfl ?_
        refine r_getR ((hp 63).trans rfl) (pl_o hp1 hw) (pl_d hp1 hw) ?_
        refine am_R.next ((hp 66).trans rfl) rfl ?_
        refine am_R.next ((hp 67).trans rfl) rfl ?_
        refine r_i2z ((hp 69).trans rfl) (by decide) ?_
        refine am_R.next ((hp 70).trans rfl) rfl ?_
        refine r_i2z ((hp 72).trans rfl) (by decide) ?_
        refine am_R.next ((hp 73).trans rfl) rfl ?_
        refine am_R.next ((hp 74).trans rfl) rfl ?_
        refine r_i2z ((hp 76).trans rfl) (by decide) ?_
        obtain ⟨c3, H⟩ := H
        obtain ⟨h4, eh4⟩ : ∃ z : am_H, z = am_put g1 (p1 + 2) (((am_w (x2.tdiv 10)).tmod 10).toNat) (x2.tmod 10) := ⟨_, rfl⟩
        have H := H h4 eh4
        refine r_iast ((hp 77).trans rfl) (pl_da hp1 hw c3.1 c3.2) ?_
        have hw : wf h4 := by rw [eh4]; exact hw.pa (pl_lt hp1).2.2.2.2.2.2.2
        change am_R _ _ _ _ _ _ (am_put g1 (p1 + 2) (((am_w (x2.tdiv 10)).tmod 10).toNat) (x2.tmod 10)) _
        rw [← eh4]
        exact am_R.ret ((hp 78).trans rfl) rfl H
      · have H := H.2 (Decidable.not_not.mp c6)
        refine am_R.next ((hp 44).trans rfl) rfl ?_
        refine am_R.next ((hp 45).trans rfl) rfl ?_
        refine am_R.next ((hp 46).trans rfl) rfl ?_
        refine r_i2z ((hp 48).trans rfl) (by decide) ?_
        refine am_R.next ((hp 49).trans rfl) rfl ?_
        refine r_i2z ((hp 51).trans rfl) (by decide) ?_
        refine am_R.next ((hp 52).trans rfl) rfl ?_
        refine am_R.next ((hp 53).trans rfl) rfl ?_
        refine r_i2z ((hp 55).trans rfl) (by decide) ?_
        refine r_cv (bs := [.inl ((am_w (x2.tdiv 10)).tmod 10), .inl (x2.tmod 10)]) (st' := []) ((hp 56).trans rfl) (pl_o hp1 hw) rfl rfl (Nat.le_of_ble_eq_true rfl) (Nat.le_of_ble_eq_true rfl) (am_R.post H (fun v g5 hq => ?_))
        obtain ⟨rfl, hw, H⟩ := hq
        change am_R _ _ _ _ _ [] _ _
        refine am_R.next ((hp 59).trans rfl) rfl ?_
        exact am_R.ret ((hp 78).trans rfl) rfl H
    · have H := H.2 (Decidable.not_not.mp c8)
      refine am_R.next ((hp 26).trans rfl) rfl ?_
      refine am_R.next ((hp 27).trans rfl) rfl ?_
      refine am_R.next ((hp 28).trans rfl) rfl ?_
      refine am_R.next ((hp 30).trans rfl) rfl ?_
      obtain ⟨h7, eh7⟩ : ∃ z : am_H, z = am_put g1 p1 3 (am_w (x2 - 10)) := ⟨_, rfl⟩
      have H := H h7 eh7
      refine r_putI ((hp 31).trans rfl) (pl_o hp1 hw) ?_
      have hw : wf h7 := by rw [eh7]; exact hw.put (pl_np hp1 (by decide))
      change am_R _ _ _ _ _ _ (am_put g1 p1 3 (am_w (x2 - 10))) _
      rw [← eh7]
      refine am_R.next ((hp 34).trans rfl) rfl ?_
      exact am_R.ret ((hp 78).trans rfl) rfl H
  · have H := H.2 c11
    refine am_R.next ((hp 8).trans rfl) rfl ?_
    refine am_R.next ((hp 9).trans rfl) rfl ?_
    refine am_R.next ((hp 10).trans rfl) rfl ?_
    refine am_R.next ((hp 11).trans rfl) rfl ?_
    refine am_R.next ((hp 12).trans rfl) rfl ?_
    refine r_cv (bs := [.inr (.inr ((p1 : Nat) : Int)), .inl (am_w (x2 - 1))]) (st' := []) ((hp 13).trans rfl) (hw.o (i := 9) (by decide) rfl) rfl rfl (Nat.le_of_ble_eq_true rfl) (Nat.le_of_ble_eq_true rfl) (am_R.post H (fun v g9 hq => ?_))
    obtain ⟨r10, rfl, hw, H⟩ := hq
    change am_R _ _ _ _ _ [.inl r10] _ _
    refine am_R.next ((hp 16).trans rfl) rfl ?_
    refine am_R.next ((hp 17).trans rfl) rfl ?_
    exact am_R.ret ((hp 78).trans rfl) rfl H
theorem w_Stage_step_0 {scr : Nat × (Nat → Int)} {d : Nat} {h : am_H} {Q : Option am_V → am_H → Prop} {x2 : Int} {p1 : Nat} (hp1 : p1 ∈ PL) (hs : am_sc scr) (hw : wf h) (H : am_R (am_prog scr) (d + 1) f_Stage_step 8 [some (.inr (.inr ((9 : Nat) : Int))), some (.inr (.inr ((p1 : Nat) : Int))), some (.inl x2), some (.inl (-1)), some (.inl 0), some (.inl 0), none] [] h Q) : am_R (am_prog scr) (d + 1) f_Stage_step 0 [some (.inr (.inr ((9 : Nat) : Int))), some (.inr (.inr ((p1 : Nat) : Int))), some (.inl x2), none, none, none, none] [] h Q := by
  have hp : ∀ k, (am_prog scr).1 f_Stage_step k = c_Stage_step k := fun _ => rfl
  refine am_R.next ((hp 0).trans rfl) rfl ?_
  refine am_R.next (lv' := [some (.inr (.inr ((9 : Nat) : Int))), some (.inr (.inr ((p1 : Nat) : Int))), some (.inl x2), some (.inl (-1)), none, none, none]) ((hp 1).trans rfl) rfl ?_
  refine am_R.next ((hp 2).trans rfl) rfl ?_
  refine am_R.next (lv' := [some (.inr (.inr ((9 : Nat) : Int))), some (.inr (.inr ((p1 : Nat) : Int))), some (.inl x2), some (.inl (-1)), some (.inl 0), none, none]) ((hp 3).trans rfl) rfl ?_
  refine am_R.next ((hp 5).trans rfl) rfl ?_
  refine am_R.next (lv' := [some (.inr (.inr ((9 : Nat) : Int))), some (.inr (.inr ((p1 : Nat) : Int))), some (.inl x2), some (.inl (-1)), some (.inl 0), some (.inl 0), none]) ((hp 6).trans rfl) rfl ?_
  exact H
theorem w_Stage_step_8 {scr : Nat × (Nat → Int)} {d : Nat} {h : am_H} {Q : Option am_V → am_H → Prop} {x2 x3 x4 x5 : Int} {p1 : Nat} (hp1 : p1 ∈ PL) (hs : am_sc scr) (hw : wf h) (H : am_isO h (h.2.2.2 p1 0) 1 ∧ ((¬ (x5 < (h.2.2.2 ((h.2.2.2 p1 0).toNat) 4)) → ((¬ (x3 = (-1)) → (am_R (am_prog scr) d f_Stage_tone 0 [some (.inr (.inr ((9 : Nat) : Int))), some (.inr (.inr ((p1 : Nat) : Int))), some (.inl x3), none, none, none] [] h (fun v g2 => ∃ r3 : Int, v = some (.inl r3) ∧ wf g2 ∧ (∀ h4 : am_H, h4 = am_put g2 p1 5 r3 → (∀ h5 : am_H, h5 = am_put h4 p1 4 x3 → (am_isO h5 (h5.2.2.2 p1 0) 1 ∧ ((¬ ((h5.2.2.2 p1 5) = (h5.2.2.2 ((h5.2.2.2 p1 0).toNat) 9)) → (∀ h7 : am_H, h7 = am_put h5 p1 7 (am_w ((h5.2.2.2 p1 7) + 1)) → (Q (some (.inl x3)) h7))) ∧ ((h5.2.2.2 p1 5) = (h5.2.2.2 ((h5.2.2.2 p1 0).toNat) 9) → (∀ h8 : am_H, h8 = am_put h5 p1 6 (am_w ((h5.2.2.2 p1 6) + 1)) → (∀ h9 : am_H, h9 = am_put h8 p1 7 (am_w ((h8.2.2.2 p1 7) + 1)) → (Q (some (.inl x3)) h9))))))))))) ∧ (x3 = (-1) → (∀ h11 : am_H, h11 = am_put h p1 8 1 → (Q (some (.inl (-1))) h11))))) ∧ (x5 < (h.2.2.2 ((h.2.2.2 p1 0).toNat) 4) → ((x5 = (h.2.2.2 p1 4) → (∀ y13 : Int, y13 = am_w (x5 + 1) → (am_R (am_prog scr) (d + 1) f_Stage_step 8 [some (.inr (.inr ((9 : Nat) : Int))), some (.inr (.inr ((p1 : Nat) : Int))), some (.inl x2), some (.inl x3), some (.inl x4), some (.inl y13), none] [] h Q))) ∧ (¬ (x5 = (h.2.2.2 p1 4)) → ((x5 = x2 → (∀ y14 : Int, y14 = am_w (x5 + 1) → (am_R (am_prog scr) (d + 1) f_Stage_step 8 [some (.inr (.inr ((9 : Nat) : Int))), some (.inr (.inr ((p1 : Nat) : Int))), some (.inl x2), some (.inl x3), some (.inl x4), some (.inl y14), none] [] h Q))) ∧ (¬ (x5 = x2) → (am_R (am_prog scr) d f_Stage_amount 0 [some (.inr (.inr ((9 : Nat) : Int))), some (.inr (.inr ((p1 : Nat) : Int))), some (.inl x5), none, none, none] [] h (fun v g15 => ∃ r16 : Int, v = some (.inl r16) ∧ wf g15 ∧ ((r16 ≤ x4 → (∀ y17 : Int, y17 = am_w (x5 + 1) → (am_R (am_prog scr) (d + 1) f_Stage_step 8 [some (.inr (.inr ((9 : Nat) : Int))), some (.inr (.inr ((p1 : Nat) : Int))), some (.inl x2), some (.inl x3), some (.inl x4), some (.inl y17), none] [] g15 Q))) ∧ (¬ (r16 ≤ x4) → (∀ y18 : Int, y18 = am_w (x5 + 1) → (am_R (am_prog scr) (d + 1) f_Stage_step 8 [some (.inr (.inr ((9 : Nat) : Int))), some (.inr (.inr ((p1 : Nat) : Int))), some (.inl x2), some (.inl x5), some (.inl r16), some (.inl y18), none] [] g15 Q))))))))))))) : am_R (am_prog scr) (d + 1) f_Stage_step 8 [some (.inr (.inr ((9 : Nat) : Int))), some (.inr (.inr ((p1 : Nat) : Int))), some (.inl x2), some (.inl x3), some (.inl x4), some (.inl x5), none] [] h Q := by
  have hp : ∀ k, (am_prog scr).1 f_Stage_step k = c_Stage_step k := fun _ => rfl
  refine am_R.next ((hp 8).trans rfl) rfl ?_
  refine am_R.next ((hp 10).trans rfl) rfl ?_
  refine r_getR ((hp 11).trans rfl) (pl_o hp1 hw) rfl ?_
  obtain ⟨c1, H⟩ := H
  refine r_getI ((hp 14).trans rfl) c1 ?_
  refine r_ic ((hp 17).trans rfl) (fun c22 => ?_) (fun c22 => ?_)
  · have H := H.1 c22
    refine am_R.next ((hp 64).trans rfl) rfl ?_
    refine am_R.next ((hp 65).trans rfl) rfl ?_
    refine r_ic ((hp 66).trans rfl) (fun c12 => ?_) (fun c12 => ?_)
    · have H := H.1 c12
      refine am_R.next ((hp 76).trans rfl) rfl ?_
      refine am_R.next ((hp 77).trans rfl) rfl ?_
      refine am_R.next ((hp 78).trans rfl) rfl ?_
      refine am_R.next ((hp 79).trans rfl) rfl ?_
      refine r_cv (bs := [.inr (.inr ((p1 : Nat) : Int)), .inl x3]) (st' := [.inr (.inr ((p1 : Nat) : Int))]) ((hp 80).trans rfl) (hw.o (i := 9) (by decide) rfl) rfl rfl (Nat.le_of_ble_eq_true rfl) (Nat.le_of_ble_eq_true rfl) (am_R.post H (fun v g2 hq => ?_))
      obtain ⟨r3, rfl, hw, H⟩ := hq
      change am_R _ _ _ _ _ [.inl r3, .inr (.inr ((p1 : Nat) : Int))] _ _
      obtain ⟨h4, eh4⟩ : ∃ z : am_H, z = am_put g2 p1 5 r3 := ⟨_, rfl⟩
      have H := H h4 eh4
      refine r_putI ((hp 83).trans rfl) (pl_o hp1 hw) ?_
      have hw : wf h4 := by rw [eh4]; exact hw.put (pl_np hp1 (by decide))
      change am_R _ _ _ _ _ _ (am_put g2 p1 5 r3) _
      rw [← eh4]
      refine am_R.next ((hp 86).trans rfl) rfl ?_
      refine am_R.next ((hp 87).trans rfl) rfl ?_
      obtain ⟨h5, eh5⟩ : ∃ z : am_H, z = am_put h4 p1 4 x3 := ⟨_, rfl⟩
      have H := H h5 eh5
      refine r_putI ((hp 88).trans rfl) (pl_o hp1 hw) ?_
      have hw : wf h5 := by rw [eh5]; exact hw.put (pl_np hp1 (by decide))
      change am_R _ _ _ _ _ _ (am_put h4 p1 4 x3) _
      rw [← eh5]
      refine am_R.next ((hp 91).trans rfl) rfl ?_
      refine r_getI ((hp 92).trans rfl) (pl_o hp1 hw) ?_
      refine am_R.next ((hp 95).trans rfl) rfl ?_
      refine r_getR ((hp 96).trans rfl) (pl_o hp1 hw) rfl ?_
      obtain ⟨c6, H⟩ := H
      refine r_getI ((hp 99).trans rfl) c6 ?_
      refine r_ic ((hp 102).trans rfl) (fun c10 => ?_) (fun c10 => ?_)
      · have H := H.1 c10
        refine am_R.next ((hp 115).trans rfl) rfl ?_
        refine am_R.next ((hp 116).trans rfl) rfl ?_
        refine r_getI ((hp 117).trans rfl) (pl_o hp1 hw) ?_
        refine am_R.next ((hp 120).trans rfl) rfl ?_
        refine am_R.next ((hp 121).trans rfl) rfl ?_
        obtain ⟨h7, eh7⟩ : ∃ z : am_H, z = am_put h5 p1 7 (am_w ((h5.2.2.2 p1 7) + 1)) := ⟨_, rfl⟩
        have H := H h7 eh7
        refine r_putI ((hp 122).trans rfl) (pl_o hp1 hw) ?_
        have hw : wf h7 := by rw [eh7]; exact hw.put (pl_np hp1 (by decide))
        change am_R _ _ _ _ _ _ (am_put h5 p1 7 (am_w ((h5.2.2.2 p1 7) + 1))) _
        rw [← eh7]
        refine am_R.next ((hp 125).trans rfl) rfl ?_
        exact am_R.ret ((hp 126).trans rfl) rfl H
      · have H := H.2 (Decidable.not_not.mp c10)
        refine am_R.next ((hp 105).trans rfl) rfl ?_
        refine am_R.next ((hp 106).trans rfl) rfl ?_
        refine r_getI ((hp 107).trans rfl) (pl_o hp1 hw) ?_
        refine am_R.next ((hp 110).trans rfl) rfl ?_
        refine am_R.next ((hp 111).trans rfl) rfl ?_
        obtain ⟨h8, eh8⟩ : ∃ z : am_H, z = am_put h5 p1 6 (am_w ((h5.2.2.2 p1 6) + 1)) := ⟨_, rfl⟩
        have H := H h8 eh8
        refine r_putI ((hp 112).trans rfl) (pl_o hp1 hw) ?_
        have hw : wf h8 := by rw [eh8]; exact hw.put (pl_np hp1 (by decide))
        change am_R _ _ _ _ _ _ (am_put h5 p1 6 (am_w ((h5.2.2.2 p1 6) + 1))) _
        rw [← eh8]
        refine am_R.next ((hp 115).trans rfl) rfl ?_
        refine am_R.next ((hp 116).trans rfl) rfl ?_
        refine r_getI ((hp 117).trans rfl) (pl_o hp1 hw) ?_
        refine am_R.next ((hp 120).trans rfl) rfl ?_
        refine am_R.next ((hp 121).trans rfl) rfl ?_
        obtain ⟨h9, eh9⟩ : ∃ z : am_H, z = am_put h8 p1 7 (am_w ((h8.2.2.2 p1 7) + 1)) := ⟨_, rfl⟩
        have H := H h9 eh9
        refine r_putI ((hp 122).trans rfl) (pl_o hp1 hw) ?_
        have hw : wf h9 := by rw [eh9]; exact hw.put (pl_np hp1 (by decide))
        change am_R _ _ _ _ _ _ (am_put h8 p1 7 (am_w ((h8.2.2.2 p1 7) + 1))) _
        rw [← eh9]
        refine am_R.next ((hp 125).trans rfl) rfl ?_
        exact am_R.ret ((hp 126).trans rfl) rfl H
    · have H := H.2 (Decidable.not_not.mp c12)
      refine am_R.next ((hp 69).trans rfl) rfl ?_
      refine am_R.next ((hp 70).trans rfl) rfl ?_
      obtain ⟨h11, eh11⟩ : ∃ z : am_H, z = am_put h p1 8 1 := ⟨_, rfl⟩
      have H := H h11 eh11
      refine r_putZ ((hp 71).trans rfl) (pl_o hp1 hw) (Or.inr rfl) ?_
      have hw : wf h11 := by rw [eh11]; exact hw.put (pl_np hp1 (by decide))
      change am_R _ _ _ _ _ _ (am_put h p1 8 1) _
      rw [← eh11]
      refine am_R.next ((hp 74).trans rfl) rfl ?_
      exact am_R.ret ((hp 75).trans rfl) rfl H
  · have H := H.2 (Decidable.not_not.mp c22)
    refine am_R.next ((hp 20).trans rfl) rfl ?_
    refine am_R.next ((hp 22).trans rfl) rfl ?_
    refine r_getI ((hp 23).trans rfl) (pl_o hp1 hw) ?_
    refine r_ic ((hp 26).trans rfl) (fun c21 => ?_) (fun c21 => ?_)
    · have H := H.1 c21
      obtain ⟨y13, ey13⟩ : ∃ z : Int, z = am_w (x5 + 1) := ⟨_, rfl⟩
      have H := H y13 ey13
      refine am_R.next (lv' := [some (.inr (.inr ((9 : Nat) : Int))), some (.inr (.inr ((p1 : Nat) : Int))), some (.inl x2), some (.inl x3), some (.inl x4), some (.inl y13), none]) (st' := []) (h' := h) (pc' := 61) ((hp 58).trans rfl) (by rw [ey13]; rfl) ?_
      refine am_R.next ((hp 61).trans rfl) rfl ?_
      exact H
    · have H := H.2 c21
      refine am_R.next ((hp 29).trans rfl) rfl ?_
      refine am_R.next ((hp 31).trans rfl) rfl ?_
      refine r_ic ((hp 32).trans rfl) (fun c20 => ?_) (fun c20 => ?_)
      · have H := H.1 c20
        obtain ⟨y14, ey14⟩ : ∃ z : Int, z = am_w (x5 + 1) := ⟨_, rfl⟩
        have H := H y14 ey14
        refine am_R.next (lv' := [some (.inr (.inr ((9 : Nat) : Int))), some (.inr (.inr ((p1 : Nat) : Int))), some (.inl x2), some (.inl x3), some (.inl x4), some (.inl y14), none]) (st' := []) (h' := h) (pc' := 61) ((hp 58).trans rfl) (by rw [ey14]; rfl) ?_
        refine am_R.next ((hp 61).trans rfl) rfl ?_
        exact H
      · have H := H.2 c20
        refine am_R.next ((hp 35).trans rfl) rfl ?_
        refine am_R.next ((hp 36).trans rfl) rfl ?_
        refine am_R.next ((hp 37).trans rfl) rfl ?_
        refine r_cv (bs := [.inr (.inr ((p1 : Nat) : Int)), .inl x5]) (st' := []) ((hp 39).trans rfl) (hw.o (i := 9) (by decide) rfl) rfl rfl (Nat.le_of_ble_eq_true rfl) (Nat.le_of_ble_eq_true rfl) (am_R.post H (fun v g15 hq => ?_))
        obtain ⟨r16, rfl, hw, H⟩ := hq
        change am_R _ _ _ _ _ [.inl r16] _ _
        refine am_R.next (lv' := [some (.inr (.inr ((9 : Nat) : Int))), some (.inr (.inr ((p1 : Nat) : Int))), some (.inl x2), some (.inl x3), some (.inl x4), some (.inl x5), some (.inl r16)]) ((hp 42).trans rfl) rfl ?_
        refine am_R.next ((hp 44).trans rfl) rfl ?_
        refine am_R.next ((hp 46).trans rfl) rfl ?_
        refine r_ic ((hp 48).trans rfl) (fun c19 => ?_) (fun c19 => ?_)
        · have H := H.1 c19
          obtain ⟨y17, ey17⟩ : ∃ z : Int, z = am_w (x5 + 1) := ⟨_, rfl⟩
          have H := H y17 ey17
          refine am_R.next (lv' := [some (.inr (.inr ((9 : Nat) : Int))), some (.inr (.inr ((p1 : Nat) : Int))), some (.inl x2), some (.inl x3), some (.inl x4), some (.inl y17), some (.inl r16)]) (st' := []) (h' := g15) (pc' := 61) ((hp 58).trans rfl) (by rw [ey17]; rfl) ?_
          refine am_R.next ((hp 61).trans rfl) rfl ?_
          exact r_le hs in_259 (le_k (le_k (le_k (le_k (le_k (le_k (le_d le_n))))))) H
        · have H := H.2 c19
          refine am_R.next ((hp 51).trans rfl) rfl ?_
          refine am_R.next (lv' := [some (.inr (.inr ((9 : Nat) : Int))), some (.inr (.inr ((p1 : Nat) : Int))), some (.inl x2), some (.inl x3), some (.inl r16), some (.inl x5), some (.inl r16)]) ((hp 53).trans rfl) rfl ?_
          refine am_R.next ((hp 55).trans rfl) rfl ?_
          refine am_R.next (lv' := [some (.inr (.inr ((9 : Nat) : Int))), some (.inr (.inr ((p1 : Nat) : Int))), some (.inl x2), some (.inl x5), some (.inl r16), some (.inl x5), some (.inl r16)]) ((hp 57).trans rfl) rfl ?_
          obtain ⟨y18, ey18⟩ : ∃ z : Int, z = am_w (x5 + 1) := ⟨_, rfl⟩
          have H := H y18 ey18
          refine am_R.next (lv' := [some (.inr (.inr ((9 : Nat) : Int))), some (.inr (.inr ((p1 : Nat) : Int))), some (.inl x2), some (.inl x5), some (.inl r16), some (.inl y18), some (.inl r16)]) (st' := []) (h' := g15) (pc' := 61) ((hp 58).trans rfl) (by rw [ey18]; rfl) ?_
          refine am_R.next ((hp 61).trans rfl) rfl ?_
          exact r_le hs in_259 (le_k (le_k (le_k (le_k (le_k (le_k (le_d le_n))))))) H
theorem w_Stage_amount_0 {scr : Nat × (Nat → Int)} {d : Nat} {h : am_H} {Q : Option am_V → am_H → Prop} {x2 : Int} {p1 : Nat} (hp1 : p1 ∈ PL) (hs : am_sc scr) (hw : wf h) (H : am_R (am_prog scr) d f_Play_far 0 [some (.inr (.inr ((p1 : Nat) : Int))), some (.inl x2)] [] h (fun v g1 => ∃ r2 : Int, v = some (.inl r2) ∧ wf g1 ∧ (am_isO g1 (g1.2.2.2 p1 0) 1 ∧ (-1 ≤ (g1.2.2.2 ((g1.2.2.2 p1 0).toNat) 12) ∧ ((¬ (g1.2.2.2 ((g1.2.2.2 p1 0).toNat) 12) = -1 → (am_R (am_prog scr) d f_Stage_slot 0 [some (.inr (.inr ((p1 : Nat) : Int))), some (.inl x2), some (.inl r2), none] [] g1 (fun v g4 => ∃ r5 : Int, v = some (.inl r5) ∧ wf g4 ∧ (am_R (am_prog scr) d f_Stage_mark 0 [some (.inr (.inr ((p1 : Nat) : Int))), some (.inl x2)] [] g4 (fun v g6 => ∃ r7 : Int, v = some (.inl r7) ∧ wf g6 ∧ ((0 ≤ r5 ∧ r5 < 6480) ∧ (((g6.2.2.2 11 r5.toNat) = r7 → ((0 ≤ r5 ∧ r5 < 6480) ∧ (Q (some (.inl (g6.2.2.2 10 r5.toNat))) g6))) ∧ (¬ ((g6.2.2.2 11 r5.toNat) = r7) → (am_R (am_prog scr) d f_Stage_setValues 0 [some (.inr (.inr ((9 : Nat) : Int))), some (.inr (.inr ((p1 : Nat) : Int))), some (.inl x2), some (.inl r2)] [] g6 (fun v g10 => v = none ∧ wf g10 ∧ (am_isO g10 (g10.2.2.2 p1 0) 1 ∧ (am_R (am_prog scr) d f_Stage_tell 0 [some (.inr (.inr ((9 : Nat) : Int))), some (.inr (.inr (g10.2.2.2 ((g10.2.2.2 p1 0).toNat) 12))), none, none, none, none, none] [] g10 (fun v g12 => ∃ r13 : Int, v = some (.inl r13) ∧ wf g12 ∧ (((0 ≤ r5 ∧ r5 < 6480)) ∧ (∀ h15 : am_H, h15 = am_put g12 10 r5.toNat r13 → (((0 ≤ r5 ∧ r5 < 6480)) ∧ (∀ h17 : am_H, h17 = am_put h15 11 r5.toNat r7 → ((0 ≤ r5 ∧ r5 < 6480) ∧ (Q (some (.inl (h17.2.2.2 10 r5.toNat))) h17))))))))))))))))))) ∧ ((g1.2.2.2 ((g1.2.2.2 p1 0).toNat) 12) = -1 → (Q (some (.inl (am_w (10 - r2)))) g1))))))) : am_R (am_prog scr) (d + 1) f_Stage_amount 0 [some (.inr (.inr ((9 : Nat) : Int))), some (.inr (.inr ((p1 : Nat) : Int))), some (.inl x2), none, none, none] [] h Q := by
  have hp : ∀ k, (am_prog scr).1 f_Stage_amount k = c_Stage_amount k := fun _ => rfl
  refine am_R.next ((hp 0).trans rfl) rfl ?_
  refine am_R.next ((hp 1).trans rfl) rfl ?_
  refine r_cv (bs := [.inl x2]) (st' := []) ((hp 2).trans rfl) (pl_o hp1 hw) rfl rfl (Nat.le_of_ble_eq_true rfl) (Nat.le_of_ble_eq_true rfl) (am_R.post H (fun v g1 hq => ?_))
  obtain ⟨r2, rfl, hw, H⟩ := hq
  change am_R _ _ _ _ _ [.inl r2] _ _
  refine am_R.next (lv' := [some (.inr (.inr ((9 : Nat) : Int))), some (.inr (.inr ((p1 : Nat) : Int))), some (.inl x2), some (.inl r2), none, none]) ((hp 5).trans rfl) rfl ?_
  refine am_R.next ((hp 6).trans rfl) rfl ?_
  refine r_getR ((hp 7).trans rfl) (pl_o hp1 hw) rfl ?_
  obtain ⟨c3, H⟩ := H
  refine r_getR ((hp 10).trans rfl) c3 rfl ?_
  obtain ⟨c21, H⟩ := H
  refine r_ifnn ((hp 13).trans rfl) c21 (fun c20 => ?_) (fun c20 => ?_)
  · have H := H.1 c20
    refine am_R.next ((hp 21).trans rfl) rfl ?_
    refine am_R.next ((hp 22).trans rfl) rfl ?_
    refine am_R.next ((hp 23).trans rfl) rfl ?_
    refine r_cs (as := [.inr (.inr ((p1 : Nat) : Int)), .inl x2, .inl r2]) (st' := []) ((hp 24).trans rfl) rfl rfl (Nat.le_of_ble_eq_true rfl) (Nat.le_of_ble_eq_true rfl) (am_R.post H (fun v g4 hq => ?_))
    obtain ⟨r5, rfl, hw, H⟩ := hq
    change am_R _ _ _ _ _ [.inl r5] _ _
    refine am_R.next (lv' := [some (.inr (.inr ((9 : Nat) : Int))), some (.inr (.inr ((p1 : Nat) : Int))), some (.inl x2), some (.inl r2), some (.inl r5), none]) ((hp 27).trans rfl) rfl ?_
    refine am_R.next ((hp 29).trans rfl) rfl ?_
    refine am_R.next ((hp 30).trans rfl) rfl ?_
    refine r_cs (as := [.inr (.inr ((p1 : Nat) : Int)), .inl x2]) (st' := []) ((hp 31).trans rfl) rfl rfl (Nat.le_of_ble_eq_true rfl) (Nat.le_of_ble_eq_true rfl) (am_R.post H (fun v g6 hq => ?_))
    obtain ⟨r7, rfl, hw, H⟩ := hq
    change am_R _ _ _ _ _ [.inl r7] _ _
    refine am_R.next (lv' := [some (.inr (.inr ((9 : Nat) : Int))), some (.inr (.inr ((p1 : Nat) : Int))), some (.inl x2), some (.inl r2), some (.inl r5), some (.inl r7)]) ((hp 34).trans rfl) rfl ?_
    refine am_R.next ((hp 36).trans rfl) rfl ?_
    refine r_getR ((hp 37).trans rfl) (hw.o (i := 9) (by decide) rfl) (hw.r wr_9_1) ?_
    refine am_R.next ((hp 40).trans rfl) rfl ?_
    obtain ⟨c8, H⟩ := H
    refine r_iald ((hp 42).trans rfl) (hw.a (i := 11) (by decide) rfl c8.1 c8.2) ?_
    refine am_R.next ((hp 43).trans rfl) rfl ?_
    refine r_ic ((hp 45).trans rfl) (fun c19 => ?_) (fun c19 => ?_)
    · have H := H.1 c19
      refine am_R.next ((hp 82).trans rfl) rfl ?_
      refine r_getR ((hp 83).trans rfl) (hw.o (i := 9) (by decide) rfl) (hw.r wr_9_0) ?_
      refine am_R.next ((hp 86).trans rfl) rfl ?_
      obtain ⟨c9, H⟩ := H
      refine r_iald ((hp 88).trans rfl) (hw.a (i := 10) (by decide) rfl c9.1 c9.2) ?_
      exact am_R.ret ((hp 89).trans rfl) rfl H
    · have H := H.2 c19
      refine am_R.next ((hp 48).trans rfl) rfl ?_
      refine am_R.next ((hp 49).trans rfl) rfl ?_
      refine am_R.next ((hp 50).trans rfl) rfl ?_
      refine am_R.next ((hp 51).trans rfl) rfl ?_
      refine r_cv (bs := [.inr (.inr ((p1 : Nat) : Int)), .inl x2, .inl r2]) (st' := []) ((hp 52).trans rfl) (hw.o (i := 9) (by decide) rfl) rfl rfl (Nat.le_of_ble_eq_true rfl) (Nat.le_of_ble_eq_true rfl) (am_R.post H (fun v g10 hq => ?_))
      obtain ⟨rfl, hw, H⟩ := hq
      change am_R _ _ _ _ _ [] _ _
      refine am_R.next ((hp 55).trans rfl) rfl ?_
      refine r_getR ((hp 56).trans rfl) (hw.o (i := 9) (by decide) rfl) (hw.r wr_9_0) ?_
      refine am_R.next ((hp 59).trans rfl) rfl ?_
      refine am_R.next ((hp 61).trans rfl) rfl ?_
      refine am_R.next ((hp 62).trans rfl) rfl ?_
      refine r_getR ((hp 63).trans rfl) (pl_o hp1 hw) rfl ?_
      obtain ⟨c11, H⟩ := H
      refine r_getR ((hp 66).trans rfl) c11 rfl ?_
      refine r_cv (bs := [.inr (.inr (g10.2.2.2 ((g10.2.2.2 p1 0).toNat) 12))]) (st' := [.inl r5, .inr (.inr ((10 : Nat) : Int))]) ((hp 69).trans rfl) (hw.o (i := 9) (by decide) rfl) rfl rfl (Nat.le_of_ble_eq_true rfl) (Nat.le_of_ble_eq_true rfl) (am_R.post H (fun v g12 hq => ?_))
      obtain ⟨r13, rfl, hw, H⟩ := hq
      change am_R _ _ _ _ _ [.inl r13, .inl r5, .inr (.inr ((10 : Nat) : Int))] _ _
      obtain ⟨c14, H⟩ := H
      obtain ⟨h15, eh15⟩ : ∃ z : am_H, z = am_put g12 10 r5.toNat r13 := ⟨_, rfl⟩
      have H := H h15 eh15
      refine r_iast ((hp 72).trans rfl) (hw.a (i := 10) (by decide) rfl c14.1 c14.2) ?_
      have hw : wf h15 := by rw [eh15]; exact hw.pa na_10
      change am_R _ _ _ _ _ _ (am_put g12 10 r5.toNat r13) _
      rw [← eh15]
      refine am_R.next ((hp 73).trans rfl) rfl ?_
      refine r_getR ((hp 74).trans rfl) (hw.o (i := 9) (by decide) rfl) (hw.r wr_9_1) ?_
      refine am_R.next ((hp 77).trans rfl) rfl ?_
      refine am_R.next ((hp 79).trans rfl) rfl ?_
      obtain ⟨c16, H⟩ := H
      obtain ⟨h17, eh17⟩ : ∃ z : am_H, z = am_put h15 11 r5.toNat r7 := ⟨_, rfl⟩
      have H := H h17 eh17
      refine r_iast ((hp 81).trans rfl) (hw.a (i := 11) (by decide) rfl c16.1 c16.2) ?_
      have hw : wf h17 := by rw [eh17]; exact hw.pa na_11
      change am_R _ _ _ _ _ _ (am_put h15 11 r5.toNat r7) _
      rw [← eh17]
      refine am_R.next ((hp 82).trans rfl) rfl ?_
      refine r_getR ((hp 83).trans rfl) (hw.o (i := 9) (by decide) rfl) (hw.r wr_9_0) ?_
      refine am_R.next ((hp 86).trans rfl) rfl ?_
      obtain ⟨c18, H⟩ := H
      refine r_iald ((hp 88).trans rfl) (hw.a (i := 10) (by decide) rfl c18.1 c18.2) ?_
      exact am_R.ret ((hp 89).trans rfl) rfl H
  · have H := H.2 c20
    refine am_R.next ((hp 16).trans rfl) rfl ?_
    refine am_R.next ((hp 18).trans rfl) rfl ?_
    refine am_R.next ((hp 19).trans rfl) rfl ?_
    exact am_R.ret ((hp 20).trans rfl) rfl H
theorem w_Stage_tone_0 {scr : Nat × (Nat → Int)} {d : Nat} {h : am_H} {Q : Option am_V → am_H → Prop} {x2 : Int} {p1 : Nat} (hp1 : p1 ∈ PL) (hs : am_sc scr) (hw : wf h) (H : am_isO h (h.2.2.2 p1 0) 1 ∧ (-1 ≤ (h.2.2.2 ((h.2.2.2 p1 0).toNat) 13) ∧ ((¬ (h.2.2.2 ((h.2.2.2 p1 0).toNat) 13) = -1 → (am_R (am_prog scr) d f_Play_far 0 [some (.inr (.inr ((p1 : Nat) : Int))), some (.inl x2)] [] h (fun v g2 => ∃ r3 : Int, v = some (.inl r3) ∧ wf g2 ∧ (am_R (am_prog scr) d f_Stage_slot 0 [some (.inr (.inr ((p1 : Nat) : Int))), some (.inl x2), some (.inl r3), none] [] g2 (fun v g4 => ∃ r5 : Int, v = some (.inl r5) ∧ wf g4 ∧ (am_R (am_prog scr) d f_Stage_mark 0 [some (.inr (.inr ((p1 : Nat) : Int))), some (.inl x2)] [] g4 (fun v g6 => ∃ r7 : Int, v = some (.inl r7) ∧ wf g6 ∧ ((0 ≤ r5 ∧ r5 < 6480) ∧ (((g6.2.2.2 13 r5.toNat) = r7 → ((0 ≤ r5 ∧ r5 < 6480) ∧ (Q (some (.inl (g6.2.2.2 12 r5.toNat))) g6))) ∧ (¬ ((g6.2.2.2 13 r5.toNat) = r7) → (am_R (am_prog scr) d f_Stage_setValues 0 [some (.inr (.inr ((9 : Nat) : Int))), some (.inr (.inr ((p1 : Nat) : Int))), some (.inl x2), some (.inl r3)] [] g6 (fun v g10 => v = none ∧ wf g10 ∧ (am_isO g10 (g10.2.2.2 p1 0) 1 ∧ (am_R (am_prog scr) d f_Stage_tell 0 [some (.inr (.inr ((9 : Nat) : Int))), some (.inr (.inr (g10.2.2.2 ((g10.2.2.2 p1 0).toNat) 13))), none, none, none, none, none] [] g10 (fun v g12 => ∃ r13 : Int, v = some (.inl r13) ∧ wf g12 ∧ (am_isO g12 (g12.2.2.2 p1 0) 1 ∧ (am_R (am_prog scr) d f_S_rest 0 [some (.inl r13), some (.inl (g12.2.2.2 ((g12.2.2.2 p1 0).toNat) 2))] [] g12 (fun v g15 => ∃ r16 : Int, v = some (.inl r16) ∧ wf g15 ∧ (((0 ≤ r5 ∧ r5 < 6480)) ∧ (∀ h18 : am_H, h18 = am_put g15 12 r5.toNat r16 → (((0 ≤ r5 ∧ r5 < 6480)) ∧ (∀ h20 : am_H, h20 = am_put h18 13 r5.toNat r7 → ((0 ≤ r5 ∧ r5 < 6480) ∧ (Q (some (.inl (h20.2.2.2 12 r5.toNat))) h20)))))))))))))))))))))))) ∧ ((h.2.2.2 ((h.2.2.2 p1 0).toNat) 13) = -1 → ((0 ≤ x2 ∧ x2 < 6) ∧ (am_isO h (h.2.2.2 p1 0) 1 ∧ (am_R (am_prog scr) d f_S_rest 0 [some (.inl (am_w ((h.2.2.2 p1 5) + (h.2.2.2 (p1 + 2) x2.toNat)))), some (.inl (h.2.2.2 ((h.2.2.2 p1 0).toNat) 2))] [] h (fun v g25 => ∃ r26 : Int, v = some (.inl r26) ∧ wf g25 ∧ (Q (some (.inl r26)) g25))))))))) : am_R (am_prog scr) (d + 1) f_Stage_tone 0 [some (.inr (.inr ((9 : Nat) : Int))), some (.inr (.inr ((p1 : Nat) : Int))), some (.inl x2), none, none, none] [] h Q := by
  have hp : ∀ k, (am_prog scr).1 f_Stage_tone k = c_Stage_tone k := fun _ => rfl
  refine am_R.next ((hp 0).trans rfl) rfl ?_
  refine r_getR ((hp 1).trans rfl) (pl_o hp1 hw) rfl ?_
  obtain ⟨c1, H⟩ := H
  refine r_getR ((hp 4).trans rfl) c1 rfl ?_
  obtain ⟨c28, H⟩ := H
  refine r_ifnn ((hp 7).trans rfl) c28 (fun c27 => ?_) (fun c27 => ?_)
  · have H := H.1 c27
    refine am_R.next ((hp 32).trans rfl) rfl ?_
    refine am_R.next ((hp 33).trans rfl) rfl ?_
    refine r_cv (bs := [.inl x2]) (st' := []) ((hp 34).trans rfl) (pl_o hp1 hw) rfl rfl (Nat.le_of_ble_eq_true rfl) (Nat.le_of_ble_eq_true rfl) (am_R.post H (fun v g2 hq => ?_))
    obtain ⟨r3, rfl, hw, H⟩ := hq
    change am_R _ _ _ _ _ [.inl r3] _ _
    refine am_R.next (lv' := [some (.inr (.inr ((9 : Nat) : Int))), some (.inr (.inr ((p1 : Nat) : Int))), some (.inl x2), some (.inl r3), none, none]) ((hp 37).trans rfl) rfl ?_
    refine am_R.next ((hp 38).trans rfl) rfl ?_
    refine am_R.next ((hp 39).trans rfl) rfl ?_
    refine am_R.next ((hp 40).trans rfl) rfl ?_
    refine r_cs (as := [.inr (.inr ((p1 : Nat) : Int)), .inl x2, .inl r3]) (st' := []) ((hp 41).trans rfl) rfl rfl (Nat.le_of_ble_eq_true rfl) (Nat.le_of_ble_eq_true rfl) (am_R.post H (fun v g4 hq => ?_))
    obtain ⟨r5, rfl, hw, H⟩ := hq
    change am_R _ _ _ _ _ [.inl r5] _ _
    refine am_R.next (lv' := [some (.inr (.inr ((9 : Nat) : Int))), some (.inr (.inr ((p1 : Nat) : Int))), some (.inl x2), some (.inl r3), some (.inl r5), none]) ((hp 44).trans rfl) rfl ?_
    refine am_R.next ((hp 46).trans rfl) rfl ?_
    refine am_R.next ((hp 47).trans rfl) rfl ?_
    refine r_cs (as := [.inr (.inr ((p1 : Nat) : Int)), .inl x2]) (st' := []) ((hp 48).trans rfl) rfl rfl (Nat.le_of_ble_eq_true rfl) (Nat.le_of_ble_eq_true rfl) (am_R.post H (fun v g6 hq => ?_))
    obtain ⟨r7, rfl, hw, H⟩ := hq
    change am_R _ _ _ _ _ [.inl r7] _ _
    refine am_R.next (lv' := [some (.inr (.inr ((9 : Nat) : Int))), some (.inr (.inr ((p1 : Nat) : Int))), some (.inl x2), some (.inl r3), some (.inl r5), some (.inl r7)]) ((hp 51).trans rfl) rfl ?_
    refine am_R.next ((hp 53).trans rfl) rfl ?_
    refine r_getR ((hp 54).trans rfl) (hw.o (i := 9) (by decide) rfl) (hw.r wr_9_3) ?_
    refine am_R.next ((hp 57).trans rfl) rfl ?_
    obtain ⟨c8, H⟩ := H
    refine r_iald ((hp 59).trans rfl) (hw.a (i := 13) (by decide) rfl c8.1 c8.2) ?_
    refine am_R.next ((hp 60).trans rfl) rfl ?_
    refine r_ic ((hp 62).trans rfl) (fun c22 => ?_) (fun c22 => ?_)
    · have H := H.1 c22
      refine am_R.next ((hp 109).trans rfl) rfl ?_
      refine r_getR ((hp 110).trans rfl) (hw.o (i := 9) (by decide) rfl) (hw.r wr_9_2) ?_
      refine am_R.next ((hp 113).trans rfl) rfl ?_
      obtain ⟨c9, H⟩ := H
      refine r_iald ((hp 115).trans rfl) (hw.a (i := 12) (by decide) rfl c9.1 c9.2) ?_
      exact am_R.ret ((hp 116).trans rfl) rfl H
    · have H := H.2 c22
      refine am_R.next ((hp 65).trans rfl) rfl ?_
      refine am_R.next ((hp 66).trans rfl) rfl ?_
      refine am_R.next ((hp 67).trans rfl) rfl ?_
      refine am_R.next ((hp 68).trans rfl) rfl ?_
      refine r_cv (bs := [.inr (.inr ((p1 : Nat) : Int)), .inl x2, .inl r3]) (st' := []) ((hp 69).trans rfl) (hw.o (i := 9) (by decide) rfl) rfl rfl (Nat.le_of_ble_eq_true rfl) (Nat.le_of_ble_eq_true rfl) (am_R.post H (fun v g10 hq => ?_))
      obtain ⟨rfl, hw, H⟩ := hq
      change am_R _ _ _ _ _ [] _ _
      refine am_R.next ((hp 72).trans rfl) rfl ?_
      refine r_getR ((hp 73).trans rfl) (hw.o (i := 9) (by decide) rfl) (hw.r wr_9_2) ?_
      refine am_R.next ((hp 76).trans rfl) rfl ?_
      refine am_R.next ((hp 78).trans rfl) rfl ?_
      refine am_R.next ((hp 79).trans rfl) rfl ?_
      refine r_getR ((hp 80).trans rfl) (pl_o hp1 hw) rfl ?_
      obtain ⟨c11, H⟩ := H
      refine r_getR ((hp 83).trans rfl) c11 rfl ?_
      refine r_cv (bs := [.inr (.inr (g10.2.2.2 ((g10.2.2.2 p1 0).toNat) 13))]) (st' := [.inl r5, .inr (.inr ((12 : Nat) : Int))]) ((hp 86).trans rfl) (hw.o (i := 9) (by decide) rfl) rfl rfl (Nat.le_of_ble_eq_true rfl) (Nat.le_of_ble_eq_true rfl) (am_R.post H (fun v g12 hq => ?_))
      obtain ⟨r13, rfl, hw, H⟩ := hq
      change am_R _ _ _ _ _ [.inl r13, .inl r5, .inr (.inr ((12 : Nat) : Int))] _ _
      refine am_R.next ((hp 89).trans rfl) rfl ?_
      refine r_getR ((hp 90).trans rfl) (pl_o hp1 hw) rfl ?_
      obtain ⟨c14, H⟩ := H
      refine r_getI ((hp 93).trans rfl) c14 ?_
      refine r_cs (as := [.inl r13, .inl (g12.2.2.2 ((g12.2.2.2 p1 0).toNat) 2)]) (st' := [.inl r5, .inr (.inr ((12 : Nat) : Int))]) ((hp 96).trans rfl) rfl rfl (Nat.le_of_ble_eq_true rfl) (Nat.le_of_ble_eq_true rfl) (am_R.post H (fun v g15 hq => ?_))
      obtain ⟨r16, rfl, hw, H⟩ := hq
      change am_R _ _ _ _ _ [.inl r16, .inl r5, .inr (.inr ((12 : Nat) : Int))] _ _
      obtain ⟨c17, H⟩ := H
      obtain ⟨h18, eh18⟩ : ∃ z : am_H, z = am_put g15 12 r5.toNat r16 := ⟨_, rfl⟩
      have H := H h18 eh18
      refine r_iast ((hp 99).trans rfl) (hw.a (i := 12) (by decide) rfl c17.1 c17.2) ?_
      have hw : wf h18 := by rw [eh18]; exact hw.pa na_12
      change am_R _ _ _ _ _ _ (am_put g15 12 r5.toNat r16) _
      rw [← eh18]
      refine am_R.next ((hp 100).trans rfl) rfl ?_
      refine r_getR ((hp 101).trans rfl) (hw.o (i := 9) (by decide) rfl) (hw.r wr_9_3) ?_
      refine am_R.next ((hp 104).trans rfl) rfl ?_
      refine am_R.next ((hp 106).trans rfl) rfl ?_
      obtain ⟨c19, H⟩ := H
      obtain ⟨h20, eh20⟩ : ∃ z : am_H, z = am_put h18 13 r5.toNat r7 := ⟨_, rfl⟩
      have H := H h20 eh20
      refine r_iast ((hp 108).trans rfl) (hw.a (i := 13) (by decide) rfl c19.1 c19.2) ?_
      have hw : wf h20 := by rw [eh20]; exact hw.pa na_13
      change am_R _ _ _ _ _ _ (am_put h18 13 r5.toNat r7) _
      rw [← eh20]
      refine am_R.next ((hp 109).trans rfl) rfl ?_
      refine r_getR ((hp 110).trans rfl) (hw.o (i := 9) (by decide) rfl) (hw.r wr_9_2) ?_
      refine am_R.next ((hp 113).trans rfl) rfl ?_
      obtain ⟨c21, H⟩ := H
      refine r_iald ((hp 115).trans rfl) (hw.a (i := 12) (by decide) rfl c21.1 c21.2) ?_
      exact am_R.ret ((hp 116).trans rfl) rfl H
  · have H := H.2 c27
    refine am_R.next ((hp 10).trans rfl) rfl ?_
    refine r_getI ((hp 11).trans rfl) (pl_o hp1 hw) ?_
    refine am_R.next ((hp 14).trans rfl) rfl ?_
    refine r_getR ((hp 15).trans rfl) (pl_o hp1 hw) (pl_d hp1 hw) ?_
    refine am_R.next ((hp 18).trans rfl) rfl ?_
    obtain ⟨c23, H⟩ := H
    refine r_iald ((hp 19).trans rfl) (pl_da hp1 hw c23.1 c23.2) ?_
    refine am_R.next ((hp 20).trans rfl) rfl ?_
    refine am_R.next ((hp 21).trans rfl) rfl ?_
    refine r_getR ((hp 22).trans rfl) (pl_o hp1 hw) rfl ?_
    obtain ⟨c24, H⟩ := H
    refine r_getI ((hp 25).trans rfl) c24 ?_
    refine r_cs (as := [.inl (am_w ((h.2.2.2 p1 5) + (h.2.2.2 (p1 + 2) x2.toNat))), .inl (h.2.2.2 ((h.2.2.2 p1 0).toNat) 2)]) (st' := []) ((hp 28).trans rfl) rfl rfl (Nat.le_of_ble_eq_true rfl) (Nat.le_of_ble_eq_true rfl) (am_R.post H (fun v g25 hq => ?_))
    obtain ⟨r26, rfl, hw, H⟩ := hq
    change am_R _ _ _ _ _ [.inl r26] _ _
    exact am_R.ret ((hp 31).trans rfl) rfl H
theorem w_Stage_slot_0 {scr : Nat × (Nat → Int)} {d : Nat} {h : am_H} {Q : Option am_V → am_H → Prop} {x1 x2 : Int} {p0 : Nat} (hp0 : p0 ∈ PL) (hs : am_sc scr) (hw : wf h) (H : ∀ y1 : Int, y1 = am_w ((am_w ((am_w ((am_w ((h.2.2.2 p0 6) * 6)) + (h.2.2.2 p0 5))) * 6)) + (h.2.2.2 p0 4)) → (Q (some (.inl (am_w ((am_w ((am_w ((am_w (y1 * 6)) + x1)) * 6)) + x2)))) h)) : am_R (am_prog scr) d f_Stage_slot 0 [some (.inr (.inr ((p0 : Nat) : Int))), some (.inl x1), some (.inl x2), none] [] h Q := by
  have hp : ∀ k, (am_prog scr).1 f_Stage_slot k = c_Stage_slot k := fun _ => rfl
  refine am_R.next ((hp 0).trans rfl) rfl ?_
  refine r_getI ((hp 1).trans rfl) (pl_o hp0 hw) ?_
  refine am_R.next ((hp 4).trans rfl) rfl ?_
  refine am_R.next ((hp 6).trans rfl) rfl ?_
  refine am_R.next ((hp 7).trans rfl) rfl ?_
  refine r_getI ((hp 8).trans rfl) (pl_o hp0 hw) ?_
  refine am_R.next ((hp 11).trans rfl) rfl ?_
  refine am_R.next ((hp 12).trans rfl) rfl ?_
  refine am_R.next ((hp 14).trans rfl) rfl ?_
  refine am_R.next ((hp 15).trans rfl) rfl ?_
  refine r_getI ((hp 16).trans rfl) (pl_o hp0 hw) ?_
  refine am_R.next ((hp 19).trans rfl) rfl ?_
  obtain ⟨y1, ey1⟩ : ∃ z : Int, z = am_w ((am_w ((am_w ((am_w ((h.2.2.2 p0 6) * 6)) + (h.2.2.2 p0 5))) * 6)) + (h.2.2.2 p0 4)) := ⟨_, rfl⟩
  have H := H y1 ey1
  refine am_R.next (lv' := [some (.inr (.inr ((p0 : Nat) : Int))), some (.inl x1), some (.inl x2), some (.inl y1)]) (st' := []) (h' := h) (pc' := 21) ((hp 20).trans rfl) (by rw [ey1]; rfl) ?_
  refine am_R.next ((hp 21).trans rfl) rfl ?_
  refine am_R.next ((hp 22).trans rfl) rfl ?_
  refine am_R.next ((hp 24).trans rfl) rfl ?_
  refine am_R.next ((hp 25).trans rfl) rfl ?_
  refine am_R.next ((hp 26).trans rfl) rfl ?_
  refine am_R.next ((hp 27).trans rfl) rfl ?_
  refine am_R.next ((hp 29).trans rfl) rfl ?_
  refine am_R.next ((hp 30).trans rfl) rfl ?_
  refine am_R.next ((hp 31).trans rfl) rfl ?_
  exact am_R.ret ((hp 32).trans rfl) rfl H
theorem w_Stage_mark_0 {scr : Nat × (Nat → Int)} {d : Nat} {h : am_H} {Q : Option am_V → am_H → Prop} {x1 : Int} {p0 : Nat} (hp0 : p0 ∈ PL) (hs : am_sc scr) (hw : wf h) (H : am_isO h (h.2.2.2 p0 0) 1 ∧ ((0 ≤ x1 ∧ x1 < 6) ∧ (Q (some (.inl (am_w ((am_w ((am_w ((am_w ((h.2.2.2 ((h.2.2.2 p0 0).toNat) 0) * 10)) + (h.2.2.2 (p0 + 2) x1.toNat))) * 10)) + (h.2.2.2 p0 3))))) h))) : am_R (am_prog scr) d f_Stage_mark 0 [some (.inr (.inr ((p0 : Nat) : Int))), some (.inl x1)] [] h Q := by
  have hp : ∀ k, (am_prog scr).1 f_Stage_mark k = c_Stage_mark k := fun _ => rfl
  refine am_R.next ((hp 0).trans rfl) rfl ?_
  refine r_getR ((hp 1).trans rfl) (pl_o hp0 hw) rfl ?_
  obtain ⟨c1, H⟩ := H
  refine r_getI ((hp 4).trans rfl) c1 ?_
  refine am_R.next ((hp 7).trans rfl) rfl ?_
  refine am_R.next ((hp 9).trans rfl) rfl ?_
  refine am_R.next ((hp 10).trans rfl) rfl ?_
  refine r_getR ((hp 11).trans rfl) (pl_o hp0 hw) (pl_d hp0 hw) ?_
  refine am_R.next ((hp 14).trans rfl) rfl ?_
  obtain ⟨c2, H⟩ := H
  refine r_iald ((hp 15).trans rfl) (pl_da hp0 hw c2.1 c2.2) ?_
  refine am_R.next ((hp 16).trans rfl) rfl ?_
  refine am_R.next ((hp 17).trans rfl) rfl ?_
  refine am_R.next ((hp 19).trans rfl) rfl ?_
  refine am_R.next ((hp 20).trans rfl) rfl ?_
  refine r_getI ((hp 21).trans rfl) (pl_o hp0 hw) ?_
  refine am_R.next ((hp 24).trans rfl) rfl ?_
  exact am_R.ret ((hp 25).trans rfl) rfl H
theorem w_Stage_setValues_0 {scr : Nat × (Nat → Int)} {d : Nat} {h : am_H} {Q : Option am_V → am_H → Prop} {x2 x3 : Int} {p1 : Nat} (hp1 : p1 ∈ PL) (hs : am_sc scr) (hw : wf h) (H : ∀ h1 : am_H, h1 = am_put h 14 0 x2 → (∀ h2 : am_H, h2 = am_put h1 14 1 (h1.2.2.2 p1 4) → (∀ h3 : am_H, h3 = am_put h2 14 2 (h2.2.2.2 p1 5) → (∀ h4 : am_H, h4 = am_put h3 14 3 x3 → (∀ h5 : am_H, h5 = am_put h4 14 4 (h4.2.2.2 p1 6) → ((0 ≤ x2 ∧ x2 < 6) ∧ (∀ h7 : am_H, h7 = am_put h5 14 5 (h5.2.2.2 (p1 + 2) x2.toNat) → (∀ h8 : am_H, h8 = am_put h7 14 6 (h7.2.2.2 p1 3) → (Q none h8))))))))) : am_R (am_prog scr) d f_Stage_setValues 0 [some (.inr (.inr ((9 : Nat) : Int))), some (.inr (.inr ((p1 : Nat) : Int))), some (.inl x2), some (.inl x3)] [] h Q := by
  have hp : ∀ k, (am_prog scr).1 f_Stage_setValues k = c_Stage_setValues k := fun _ => rfl
  refine am_R.next ((hp 0).trans rfl) rfl ?_
  refine r_getR ((hp 1).trans rfl) (hw.o (i := 9) (by decide) rfl) (hw.r wr_9_4) ?_
  refine am_R.next ((hp 4).trans rfl) rfl ?_
  refine am_R.next ((hp 5).trans rfl) rfl ?_
  obtain ⟨h1, eh1⟩ : ∃ z : am_H, z = am_put h 14 0 x2 := ⟨_, rfl⟩
  have H := H h1 eh1
  refine r_iast ((hp 6).trans rfl) (hw.a (i := 14) (by decide) rfl (by decide) (by decide)) ?_
  have hw : wf h1 := by rw [eh1]; exact hw.pa na_14
  change am_R _ _ _ _ _ _ (am_put h 14 0 x2) _
  rw [← eh1]
  refine am_R.next ((hp 7).trans rfl) rfl ?_
  refine r_getR ((hp 8).trans rfl) (hw.o (i := 9) (by decide) rfl) (hw.r wr_9_4) ?_
  refine am_R.next ((hp 11).trans rfl) rfl ?_
  refine am_R.next ((hp 12).trans rfl) rfl ?_
  refine r_getI ((hp 13).trans rfl) (pl_o hp1 hw) ?_
  obtain ⟨h2, eh2⟩ : ∃ z : am_H, z = am_put h1 14 1 (h1.2.2.2 p1 4) := ⟨_, rfl⟩
  have H := H h2 eh2
  refine r_iast ((hp 16).trans rfl) (hw.a (i := 14) (by decide) rfl (by decide) (by decide)) ?_
  have hw : wf h2 := by rw [eh2]; exact hw.pa na_14
  change am_R _ _ _ _ _ _ (am_put h1 14 1 (h1.2.2.2 p1 4)) _
  rw [← eh2]
  refine am_R.next ((hp 17).trans rfl) rfl ?_
  refine r_getR ((hp 18).trans rfl) (hw.o (i := 9) (by decide) rfl) (hw.r wr_9_4) ?_
  refine am_R.next ((hp 21).trans rfl) rfl ?_
  refine am_R.next ((hp 22).trans rfl) rfl ?_
  refine r_getI ((hp 23).trans rfl) (pl_o hp1 hw) ?_
  obtain ⟨h3, eh3⟩ : ∃ z : am_H, z = am_put h2 14 2 (h2.2.2.2 p1 5) := ⟨_, rfl⟩
  have H := H h3 eh3
  refine r_iast ((hp 26).trans rfl) (hw.a (i := 14) (by decide) rfl (by decide) (by decide)) ?_
  have hw : wf h3 := by rw [eh3]; exact hw.pa na_14
  change am_R _ _ _ _ _ _ (am_put h2 14 2 (h2.2.2.2 p1 5)) _
  rw [← eh3]
  refine am_R.next ((hp 27).trans rfl) rfl ?_
  refine r_getR ((hp 28).trans rfl) (hw.o (i := 9) (by decide) rfl) (hw.r wr_9_4) ?_
  refine am_R.next ((hp 31).trans rfl) rfl ?_
  refine am_R.next ((hp 32).trans rfl) rfl ?_
  obtain ⟨h4, eh4⟩ : ∃ z : am_H, z = am_put h3 14 3 x3 := ⟨_, rfl⟩
  have H := H h4 eh4
  refine r_iast ((hp 33).trans rfl) (hw.a (i := 14) (by decide) rfl (by decide) (by decide)) ?_
  have hw : wf h4 := by rw [eh4]; exact hw.pa na_14
  change am_R _ _ _ _ _ _ (am_put h3 14 3 x3) _
  rw [← eh4]
  refine am_R.next ((hp 34).trans rfl) rfl ?_
  refine r_getR ((hp 35).trans rfl) (hw.o (i := 9) (by decide) rfl) (hw.r wr_9_4) ?_
  refine am_R.next ((hp 38).trans rfl) rfl ?_
  refine am_R.next ((hp 39).trans rfl) rfl ?_
  refine r_getI ((hp 40).trans rfl) (pl_o hp1 hw) ?_
  obtain ⟨h5, eh5⟩ : ∃ z : am_H, z = am_put h4 14 4 (h4.2.2.2 p1 6) := ⟨_, rfl⟩
  have H := H h5 eh5
  refine r_iast ((hp 43).trans rfl) (hw.a (i := 14) (by decide) rfl (by decide) (by decide)) ?_
  have hw : wf h5 := by rw [eh5]; exact hw.pa na_14
  change am_R _ _ _ _ _ _ (am_put h4 14 4 (h4.2.2.2 p1 6)) _
  rw [← eh5]
  refine am_R.next ((hp 44).trans rfl) rfl ?_
  refine r_getR ((hp 45).trans rfl) (hw.o (i := 9) (by decide) rfl) (hw.r wr_9_4) ?_
  refine am_R.next ((hp 48).trans rfl) rfl ?_
  refine am_R.next ((hp 49).trans rfl) rfl ?_
  refine r_getR ((hp 50).trans rfl) (pl_o hp1 hw) (pl_d hp1 hw) ?_
  refine am_R.next ((hp 53).trans rfl) rfl ?_
  obtain ⟨c6, H⟩ := H
  refine r_iald ((hp 54).trans rfl) (pl_da hp1 hw c6.1 c6.2) ?_
  obtain ⟨h7, eh7⟩ : ∃ z : am_H, z = am_put h5 14 5 (h5.2.2.2 (p1 + 2) x2.toNat) := ⟨_, rfl⟩
  have H := H h7 eh7
  refine r_iast ((hp 55).trans rfl) (hw.a (i := 14) (by decide) rfl (by decide) (by decide)) ?_
  have hw : wf h7 := by rw [eh7]; exact hw.pa na_14
  change am_R _ _ _ _ _ _ (am_put h5 14 5 (h5.2.2.2 (p1 + 2) x2.toNat)) _
  rw [← eh7]
  refine am_R.next ((hp 56).trans rfl) rfl ?_
  refine r_getR ((hp 57).trans rfl) (hw.o (i := 9) (by decide) rfl) (hw.r wr_9_4) ?_
  refine am_R.next ((hp 60).trans rfl) rfl ?_
  refine am_R.next ((hp 62).trans rfl) rfl ?_
  refine r_getI ((hp 63).trans rfl) (pl_o hp1 hw) ?_
  obtain ⟨h8, eh8⟩ : ∃ z : am_H, z = am_put h7 14 6 (h7.2.2.2 p1 3) := ⟨_, rfl⟩
  have H := H h8 eh8
  refine r_iast ((hp 66).trans rfl) (hw.a (i := 14) (by decide) rfl (by decide) (by decide)) ?_
  have hw : wf h8 := by rw [eh8]; exact hw.pa na_14
  change am_R _ _ _ _ _ _ (am_put h7 14 6 (h7.2.2.2 p1 3)) _
  rw [← eh8]
  exact am_R.ret ((hp 67).trans rfl) rfl H
theorem w_Stage_tell_0 {scr : Nat × (Nat → Int)} {d : Nat} {h : am_H} {Q : Option am_V → am_H → Prop} {a1 : Int} (hs : am_sc scr) (hw : wf h) (H : am_R (am_prog scr) (d + 1) f_Stage_tell 7 [some (.inr (.inr ((9 : Nat) : Int))), some (.inr (.inr a1)), some (.inl 0), some (.inl 0), some (.inl 0), none, none] [] h Q) : am_R (am_prog scr) (d + 1) f_Stage_tell 0 [some (.inr (.inr ((9 : Nat) : Int))), some (.inr (.inr a1)), none, none, none, none, none] [] h Q := by
  have hp : ∀ k, (am_prog scr).1 f_Stage_tell k = c_Stage_tell k := fun _ => rfl
  refine am_R.next ((hp 0).trans rfl) rfl ?_
  refine am_R.next (lv' := [some (.inr (.inr ((9 : Nat) : Int))), some (.inr (.inr a1)), some (.inl 0), none, none, none, none]) ((hp 1).trans rfl) rfl ?_
  refine am_R.next ((hp 2).trans rfl) rfl ?_
  refine am_R.next (lv' := [some (.inr (.inr ((9 : Nat) : Int))), some (.inr (.inr a1)), some (.inl 0), some (.inl 0), none, none, none]) ((hp 3).trans rfl) rfl ?_
  refine am_R.next ((hp 4).trans rfl) rfl ?_
  refine am_R.next (lv' := [some (.inr (.inr ((9 : Nat) : Int))), some (.inr (.inr a1)), some (.inl 0), some (.inl 0), some (.inl 0), none, none]) ((hp 5).trans rfl) rfl ?_
  exact H
theorem w_Stage_tell_7 {scr : Nat × (Nat → Int)} {d : Nat} {h : am_H} {Q : Option am_V → am_H → Prop} {x2 x3 x4 a1 : Int} (hs : am_sc scr) (hw : wf h) (H : (0 ≤ a1 ∧ 1 ≤ (h.2.2.1 a1.toNat).1 ∧ (h.2.2.1 a1.toNat).1 ≤ 6 ∧ (h.2.2.1 a1.toNat).2 ≤ 1000000) ∧ ((¬ (x4 < ((h.2.2.1 a1.toNat).2 : Int)) → ((x2 ≤ 0 → (Q (some (.inl 0)) h)) ∧ (¬ (x2 ≤ 0) → ((0 ≤ (am_w (x2 - 1)) ∧ (am_w (x2 - 1)) < 64) ∧ (Q (some (.inl (h.2.2.2 15 ((am_w (x2 - 1)).toNat)))) h))))) ∧ (x4 < ((h.2.2.1 a1.toNat).2 : Int) → ((0 ≤ a1 ∧ 1 ≤ (h.2.2.1 a1.toNat).1 ∧ (h.2.2.1 a1.toNat).1 ≤ 6 ∧ (h.2.2.1 a1.toNat).2 ≤ 1000000) ∧ ((¬ (x3 < ((h.2.2.1 a1.toNat).2 : Int)) → ((x2 ≤ 0 → (Q (some (.inl 0)) h)) ∧ (¬ (x2 ≤ 0) → ((0 ≤ (am_w (x2 - 1)) ∧ (am_w (x2 - 1)) < 64) ∧ (Q (some (.inl (h.2.2.2 15 ((am_w (x2 - 1)).toNat)))) h))))) ∧ (x3 < ((h.2.2.1 a1.toNat).2 : Int) → (am_inA h a1 1 x3 ∧ (∀ y8 : Int, y8 = h.2.2.2 a1.toNat x3.toNat → ((y8 < (-7) → ((y8 = (-17) → (am_R (am_prog scr) (d + 1) f_Stage_tell 89 [some (.inr (.inr ((9 : Nat) : Int))), some (.inr (.inr a1)), some (.inl x2), some (.inl x3), some (.inl x4), some (.inl y8), none] [] h Q)) ∧ (¬ (y8 = (-17)) → ((¬ (y8 = (-18)) → ((¬ (y8 = (-14)) → (am_R (am_prog scr) (d + 1) f_Stage_tell 191 [some (.inr (.inr ((9 : Nat) : Int))), some (.inr (.inr a1)), some (.inl x2), some (.inl x3), some (.inl x4), some (.inl y8), none] [] h Q)) ∧ (y8 = (-14) → ((x2 ≤ 0 → (am_R (am_prog scr) (d + 1) f_Stage_tell 191 [some (.inr (.inr ((9 : Nat) : Int))), some (.inr (.inr a1)), some (.inl x2), some (.inl x3), some (.inl x4), some (.inl y8), none] [] h Q)) ∧ (¬ (x2 ≤ 0) → ((0 ≤ (am_w (x2 - 1)) ∧ (am_w (x2 - 1)) < 64) ∧ (((0 ≤ (am_w (x2 - 1)) ∧ (am_w (x2 - 1)) < 64)) ∧ (∀ h11 : am_H, h11 = am_put h 15 ((am_w (x2 - 1)).toNat) (am_w (1 - (h.2.2.2 15 ((am_w (x2 - 1)).toNat)))) → (∀ y12 : Int, y12 = am_w (x3 + 1) → (∀ y13 : Int, y13 = am_w (x4 + 1) → (am_R (am_prog scr) (d + 1) f_Stage_tell 7 [some (.inr (.inr ((9 : Nat) : Int))), some (.inr (.inr a1)), some (.inl x2), some (.inl y12), some (.inl y13), none, none] [] h11 Q))))))))))) ∧ (y8 = (-18) → (am_R (am_prog scr) (d + 1) f_Stage_tell 89 [some (.inr (.inr ((9 : Nat) : Int))), some (.inr (.inr a1)), some (.inl x2), some (.inl x3), some (.inl x4), some (.inl y8), none] [] h Q)))))) ∧ (¬ (y8 < (-7)) → ((¬ (x2 < 64) → (∀ y18 : Int, y18 = am_w (x3 + 1) → (∀ y19 : Int, y19 = am_w (x4 + 1) → (am_R (am_prog scr) (d + 1) f_Stage_tell 7 [some (.inr (.inr ((9 : Nat) : Int))), some (.inr (.inr a1)), some (.inl x2), some (.inl y18), some (.inl y19), none, none] [] h Q)))) ∧ (x2 < 64 → ((y8 < 0 → ((0 ≤ (am_w ((-1) - y8)) ∧ (am_w ((-1) - y8)) < 7) ∧ (((0 ≤ x2 ∧ x2 < 64)) ∧ (∀ h22 : am_H, h22 = am_put h 15 x2.toNat (h.2.2.2 14 ((am_w ((-1) - y8)).toNat)) → (∀ y23 : Int, y23 = am_w (x2 + 1) → (∀ y24 : Int, y24 = am_w (x3 + 1) → (∀ y25 : Int, y25 = am_w (x4 + 1) → (am_R (am_prog scr) (d + 1) f_Stage_tell 7 [some (.inr (.inr ((9 : Nat) : Int))), some (.inr (.inr a1)), some (.inl y23), some (.inl y24), some (.inl y25), none, none] [] h22 Q)))))))) ∧ (¬ (y8 < 0) → (((0 ≤ x2 ∧ x2 < 64)) ∧ (∀ h27 : am_H, h27 = am_put h 15 x2.toNat y8 → (∀ y28 : Int, y28 = am_w (x2 + 1) → (∀ y29 : Int, y29 = am_w (x3 + 1) → (∀ y30 : Int, y30 = am_w (x4 + 1) → (am_R (am_prog scr) (d + 1) f_Stage_tell 7 [some (.inr (.inr ((9 : Nat) : Int))), some (.inr (.inr a1)), some (.inl y28), some (.inl y29), some (.inl y30), none, none] [] h27 Q)))))))))))))))))))) : am_R (am_prog scr) (d + 1) f_Stage_tell 7 [some (.inr (.inr ((9 : Nat) : Int))), some (.inr (.inr a1)), some (.inl x2), some (.inl x3), some (.inl x4), none, none] [] h Q := by
  have hp : ∀ k, (am_prog scr).1 f_Stage_tell k = c_Stage_tell k := fun _ => rfl
  refine am_R.next ((hp 7).trans rfl) rfl ?_
  refine am_R.next ((hp 9).trans rfl) rfl ?_
  obtain ⟨c1, H⟩ := H
  refine r_alen ((hp 10).trans rfl) c1 rfl ?_
  refine r_ic ((hp 11).trans rfl) (fun c35 => ?_) (fun c35 => ?_)
  · have H := H.1 c35
    refine am_R.next ((hp 237).trans rfl) rfl ?_
    refine r_if ((hp 238).trans rfl) (fun c3 => ?_) (fun c3 => ?_)
    · have H := H.1 c3
      refine am_R.next ((hp 252).trans rfl) rfl ?_
      exact am_R.ret ((hp 253).trans rfl) rfl H
    · have H := H.2 c3
      refine am_R.next ((hp 241).trans rfl) rfl ?_
      refine r_getR ((hp 242).trans rfl) (hw.o (i := 9) (by decide) rfl) (hw.r wr_9_5) ?_
      refine am_R.next ((hp 245).trans rfl) rfl ?_
      refine am_R.next ((hp 246).trans rfl) rfl ?_
      refine am_R.next ((hp 247).trans rfl) rfl ?_
      obtain ⟨c2, H⟩ := H
      refine r_iald ((hp 248).trans rfl) (hw.a (i := 15) (by decide) rfl c2.1 c2.2) ?_
      refine am_R.next ((hp 249).trans rfl) rfl ?_
      exact am_R.ret ((hp 253).trans rfl) rfl H
  · have H := H.2 (Decidable.not_not.mp c35)
    refine am_R.next ((hp 14).trans rfl) rfl ?_
    refine am_R.next ((hp 15).trans rfl) rfl ?_
    obtain ⟨c4, H⟩ := H
    refine r_alen ((hp 16).trans rfl) c4 rfl ?_
    refine r_ic ((hp 17).trans rfl) (fun c34 => ?_) (fun c34 => ?_)
    · have H := H.1 c34
      refine am_R.next ((hp 237).trans rfl) rfl ?_
      refine r_if ((hp 238).trans rfl) (fun c6 => ?_) (fun c6 => ?_)
      · have H := H.1 c6
        refine am_R.next ((hp 252).trans rfl) rfl ?_
        exact am_R.ret ((hp 253).trans rfl) rfl H
      · have H := H.2 c6
        refine am_R.next ((hp 241).trans rfl) rfl ?_
        refine r_getR ((hp 242).trans rfl) (hw.o (i := 9) (by decide) rfl) (hw.r wr_9_5) ?_
        refine am_R.next ((hp 245).trans rfl) rfl ?_
        refine am_R.next ((hp 246).trans rfl) rfl ?_
        refine am_R.next ((hp 247).trans rfl) rfl ?_
        obtain ⟨c5, H⟩ := H
        refine r_iald ((hp 248).trans rfl) (hw.a (i := 15) (by decide) rfl c5.1 c5.2) ?_
        refine am_R.next ((hp 249).trans rfl) rfl ?_
        exact am_R.ret ((hp 253).trans rfl) rfl H
    · have H := H.2 (Decidable.not_not.mp c34)
      refine am_R.next ((hp 20).trans rfl) rfl ?_
      refine am_R.next ((hp 21).trans rfl) rfl ?_
      obtain ⟨c7, H⟩ := H
      refine r_iald ((hp 22).trans rfl) c7 ?_
      obtain ⟨y8, ey8⟩ : ∃ z : Int, z = h.2.2.2 a1.toNat x3.toNat := ⟨_, rfl⟩
      have H := H y8 ey8
      refine am_R.next (lv' := [some (.inr (.inr ((9 : Nat) : Int))), some (.inr (.inr a1)), some (.inl x2), some (.inl x3), some (.inl x4), some (.inl y8), none]) (st' := []) (h' := h) (pc' := 25) ((hp 23).trans rfl) (by rw [ey8]; rfl) ?_
      refine am_R.next ((hp 25).trans rfl) rfl ?_
      refine am_R.next ((hp 27).trans rfl) rfl ?_
      refine r_ic ((hp 29).trans rfl) (fun c33 => ?_) (fun c33 => ?_)
      · have H := H.1 c33
        refine am_R.next ((hp 75).trans rfl) rfl ?_
        refine am_R.next ((hp 77).trans rfl) rfl ?_
        refine r_ic ((hp 79).trans rfl) (fun c17 => ?_) (fun c17 => ?_)
        · have H := H.1 c17
          exact H
        · have H := H.2 c17
          refine am_R.next ((hp 82).trans rfl) rfl ?_
          refine am_R.next ((hp 84).trans rfl) rfl ?_
          refine r_ic ((hp 86).trans rfl) (fun c16 => ?_) (fun c16 => ?_)
          · have H := H.1 c16
            refine am_R.next ((hp 159).trans rfl) rfl ?_
            refine am_R.next ((hp 161).trans rfl) rfl ?_
            refine r_ic ((hp 163).trans rfl) (fun c15 => ?_) (fun c15 => ?_)
            · have H := H.1 c15
              exact H
            · have H := H.2 (Decidable.not_not.mp c15)
              refine am_R.next ((hp 166).trans rfl) rfl ?_
              refine r_if ((hp 167).trans rfl) (fun c14 => ?_) (fun c14 => ?_)
              · have H := H.1 c14
                exact H
              · have H := H.2 c14
                refine am_R.next ((hp 170).trans rfl) rfl ?_
                refine r_getR ((hp 171).trans rfl) (hw.o (i := 9) (by decide) rfl) (hw.r wr_9_5) ?_
                refine am_R.next ((hp 174).trans rfl) rfl ?_
                refine am_R.next ((hp 175).trans rfl) rfl ?_
                refine am_R.next ((hp 176).trans rfl) rfl ?_
                refine am_R.next ((hp 177).trans rfl) rfl ?_
                refine am_R.next ((hp 178).trans rfl) rfl ?_
                refine r_getR ((hp 179).trans rfl) (hw.o (i := 9) (by decide) rfl) (hw.r wr_9_5) ?_
                refine am_R.next ((hp 182).trans rfl) rfl ?_
                refine am_R.next ((hp 183).trans rfl) rfl ?_
                refine am_R.next ((hp 184).trans rfl) rfl ?_
                obtain ⟨c9, H⟩ := H
                refine r_iald ((hp 185).trans rfl) (hw.a (i := 15) (by decide) rfl c9.1 c9.2) ?_
                refine am_R.next ((hp 186).trans rfl) rfl ?_
                obtain ⟨c10, H⟩ := H
                obtain ⟨h11, eh11⟩ : ∃ z : am_H, z = am_put h 15 ((am_w (x2 - 1)).toNat) (am_w (1 - (h.2.2.2 15 ((am_w (x2 - 1)).toNat)))) := ⟨_, rfl⟩
                have H := H h11 eh11
                refine r_iast ((hp 187).trans rfl) (hw.a (i := 15) (by decide) rfl c10.1 c10.2) ?_
                have hw : wf h11 := by rw [eh11]; exact hw.pa na_15
                change am_R _ _ _ _ _ _ (am_put h 15 ((am_w (x2 - 1)).toNat) (am_w (1 - (h.2.2.2 15 ((am_w (x2 - 1)).toNat))))) _
                rw [← eh11]
                refine am_R.next ((hp 188).trans rfl) rfl ?_
                obtain ⟨y12, ey12⟩ : ∃ z : Int, z = am_w (x3 + 1) := ⟨_, rfl⟩
                have H := H y12 ey12
                refine am_R.next (lv' := [some (.inr (.inr ((9 : Nat) : Int))), some (.inr (.inr a1)), some (.inl x2), some (.inl y12), some (.inl x4), some (.inl y8), none]) (st' := []) (h' := h11) (pc' := 231) ((hp 228).trans rfl) (by rw [ey12]; rfl) ?_
                obtain ⟨y13, ey13⟩ : ∃ z : Int, z = am_w (x4 + 1) := ⟨_, rfl⟩
                have H := H y13 ey13
                refine am_R.next (lv' := [some (.inr (.inr ((9 : Nat) : Int))), some (.inr (.inr a1)), some (.inl x2), some (.inl y12), some (.inl y13), some (.inl y8), none]) (st' := []) (h' := h11) (pc' := 234) ((hp 231).trans rfl) (by rw [ey13]; rfl) ?_
                refine am_R.next ((hp 234).trans rfl) rfl ?_
                exact r_le hs in_265 (le_k (le_k (le_k (le_k (le_k (le_d (le_k le_n))))))) H
          · have H := H.2 (Decidable.not_not.mp c16)
            exact H
      · have H := H.2 c33
        refine am_R.next ((hp 32).trans rfl) rfl ?_
        refine am_R.next ((hp 33).trans rfl) rfl ?_
        refine r_getR ((hp 34).trans rfl) (hw.o (i := 9) (by decide) rfl) (hw.r wr_9_5) ?_
        refine r_alen (n := 64) ((hp 37).trans rfl) (hw.l (i := 15) (by decide) rfl (by decide)) (congrArg Prod.snd (hw.k (i := 15) (x := (1, 64)) (by decide) rfl)) ?_
        refine r_ic ((hp 38).trans rfl) (fun c32 => ?_) (fun c32 => ?_)
        · have H := H.1 c32
          obtain ⟨y18, ey18⟩ : ∃ z : Int, z = am_w (x3 + 1) := ⟨_, rfl⟩
          have H := H y18 ey18
          refine am_R.next (lv' := [some (.inr (.inr ((9 : Nat) : Int))), some (.inr (.inr a1)), some (.inl x2), some (.inl y18), some (.inl x4), some (.inl y8), none]) (st' := []) (h' := h) (pc' := 72) ((hp 69).trans rfl) (by rw [ey18]; rfl) ?_
          refine am_R.next ((hp 72).trans rfl) rfl ?_
          obtain ⟨y19, ey19⟩ : ∃ z : Int, z = am_w (x4 + 1) := ⟨_, rfl⟩
          have H := H y19 ey19
          refine am_R.next (lv' := [some (.inr (.inr ((9 : Nat) : Int))), some (.inr (.inr a1)), some (.inl x2), some (.inl y18), some (.inl y19), some (.inl y8), none]) (st' := []) (h' := h) (pc' := 234) ((hp 231).trans rfl) (by rw [ey19]; rfl) ?_
          refine am_R.next ((hp 234).trans rfl) rfl ?_
          exact r_le hs in_265 (le_k (le_k (le_k (le_k (le_k (le_d (le_k le_n))))))) H
        · have H := H.2 (Decidable.not_not.mp c32)
          refine am_R.next ((hp 41).trans rfl) rfl ?_
          refine r_getR ((hp 42).trans rfl) (hw.o (i := 9) (by decide) rfl) (hw.r wr_9_5) ?_
          refine am_R.next ((hp 45).trans rfl) rfl ?_
          refine am_R.next ((hp 46).trans rfl) rfl ?_
          refine r_if ((hp 48).trans rfl) (fun c31 => ?_) (fun c31 => ?_)
          · have H := H.1 c31
            refine am_R.next ((hp 56).trans rfl) rfl ?_
            refine r_getR ((hp 57).trans rfl) (hw.o (i := 9) (by decide) rfl) (hw.r wr_9_4) ?_
            refine am_R.next ((hp 60).trans rfl) rfl ?_
            refine am_R.next ((hp 61).trans rfl) rfl ?_
            refine am_R.next ((hp 63).trans rfl) rfl ?_
            obtain ⟨c20, H⟩ := H
            refine r_iald ((hp 64).trans rfl) (hw.a (i := 14) (by decide) rfl c20.1 c20.2) ?_
            obtain ⟨c21, H⟩ := H
            obtain ⟨h22, eh22⟩ : ∃ z : am_H, z = am_put h 15 x2.toNat (h.2.2.2 14 ((am_w ((-1) - y8)).toNat)) := ⟨_, rfl⟩
            have H := H h22 eh22
            refine r_iast ((hp 65).trans rfl) (hw.a (i := 15) (by decide) rfl c21.1 c21.2) ?_
            have hw : wf h22 := by rw [eh22]; exact hw.pa na_15
            change am_R _ _ _ _ _ _ (am_put h 15 x2.toNat (h.2.2.2 14 ((am_w ((-1) - y8)).toNat))) _
            rw [← eh22]
            obtain ⟨y23, ey23⟩ : ∃ z : Int, z = am_w (x2 + 1) := ⟨_, rfl⟩
            have H := H y23 ey23
            refine am_R.next (lv' := [some (.inr (.inr ((9 : Nat) : Int))), some (.inr (.inr a1)), some (.inl y23), some (.inl x3), some (.inl x4), some (.inl y8), none]) (st' := []) (h' := h22) (pc' := 69) ((hp 66).trans rfl) (by rw [ey23]; rfl) ?_
            obtain ⟨y24, ey24⟩ : ∃ z : Int, z = am_w (x3 + 1) := ⟨_, rfl⟩
            have H := H y24 ey24
            refine am_R.next (lv' := [some (.inr (.inr ((9 : Nat) : Int))), some (.inr (.inr a1)), some (.inl y23), some (.inl y24), some (.inl x4), some (.inl y8), none]) (st' := []) (h' := h22) (pc' := 72) ((hp 69).trans rfl) (by rw [ey24]; rfl) ?_
            refine am_R.next ((hp 72).trans rfl) rfl ?_
            obtain ⟨y25, ey25⟩ : ∃ z : Int, z = am_w (x4 + 1) := ⟨_, rfl⟩
            have H := H y25 ey25
            refine am_R.next (lv' := [some (.inr (.inr ((9 : Nat) : Int))), some (.inr (.inr a1)), some (.inl y23), some (.inl y24), some (.inl y25), some (.inl y8), none]) (st' := []) (h' := h22) (pc' := 234) ((hp 231).trans rfl) (by rw [ey25]; rfl) ?_
            refine am_R.next ((hp 234).trans rfl) rfl ?_
            exact r_le hs in_265 (le_k (le_k (le_k (le_k (le_k (le_d (le_k le_n))))))) H
          · have H := H.2 c31
            refine am_R.next ((hp 51).trans rfl) rfl ?_
            refine am_R.next ((hp 53).trans rfl) rfl ?_
            obtain ⟨c26, H⟩ := H
            obtain ⟨h27, eh27⟩ : ∃ z : am_H, z = am_put h 15 x2.toNat y8 := ⟨_, rfl⟩
            have H := H h27 eh27
            refine r_iast ((hp 65).trans rfl) (hw.a (i := 15) (by decide) rfl c26.1 c26.2) ?_
            have hw : wf h27 := by rw [eh27]; exact hw.pa na_15
            change am_R _ _ _ _ _ _ (am_put h 15 x2.toNat y8) _
            rw [← eh27]
            obtain ⟨y28, ey28⟩ : ∃ z : Int, z = am_w (x2 + 1) := ⟨_, rfl⟩
            have H := H y28 ey28
            refine am_R.next (lv' := [some (.inr (.inr ((9 : Nat) : Int))), some (.inr (.inr a1)), some (.inl y28), some (.inl x3), some (.inl x4), some (.inl y8), none]) (st' := []) (h' := h27) (pc' := 69) ((hp 66).trans rfl) (by rw [ey28]; rfl) ?_
            obtain ⟨y29, ey29⟩ : ∃ z : Int, z = am_w (x3 + 1) := ⟨_, rfl⟩
            have H := H y29 ey29
            refine am_R.next (lv' := [some (.inr (.inr ((9 : Nat) : Int))), some (.inr (.inr a1)), some (.inl y28), some (.inl y29), some (.inl x4), some (.inl y8), none]) (st' := []) (h' := h27) (pc' := 72) ((hp 69).trans rfl) (by rw [ey29]; rfl) ?_
            refine am_R.next ((hp 72).trans rfl) rfl ?_
            obtain ⟨y30, ey30⟩ : ∃ z : Int, z = am_w (x4 + 1) := ⟨_, rfl⟩
            have H := H y30 ey30
            refine am_R.next (lv' := [some (.inr (.inr ((9 : Nat) : Int))), some (.inr (.inr a1)), some (.inl y28), some (.inl y29), some (.inl y30), some (.inl y8), none]) (st' := []) (h' := h27) (pc' := 234) ((hp 231).trans rfl) (by rw [ey30]; rfl) ?_
            refine am_R.next ((hp 234).trans rfl) rfl ?_
            exact r_le hs in_265 (le_k (le_k (le_k (le_k (le_k (le_d (le_k le_n))))))) H
theorem w_Stage_tell_89 {scr : Nat × (Nat → Int)} {d : Nat} {h : am_H} {Q : Option am_V → am_H → Prop} {x2 x3 x4 x5 a1 : Int} (hs : am_sc scr) (hw : wf h) (H : (¬ (x5 = (-17)) → ((¬ ((0 : Int) = 0) → (am_R (am_prog scr) (d + 1) f_Stage_tell 131 [some (.inr (.inr ((9 : Nat) : Int))), some (.inr (.inr a1)), some (.inl x2), some (.inl x3), some (.inl x4), some (.inl x5), some (.inl 0)] [] h Q)) ∧ ((0 : Int) = 0 → ((x2 ≤ 0 → (am_R (am_prog scr) (d + 1) f_Stage_tell 131 [some (.inr (.inr ((9 : Nat) : Int))), some (.inr (.inr a1)), some (.inl x2), some (.inl x3), some (.inl x4), some (.inl x5), some (.inl 0)] [] h Q)) ∧ (¬ (x2 ≤ 0) → (∀ y1 : Int, y1 = am_w (x2 + (-1)) → ((0 ≤ y1 ∧ y1 < 64) ∧ ((¬ ((h.2.2.2 15 y1.toNat) = 0) → (am_R (am_prog scr) (d + 1) f_Stage_tell 131 [some (.inr (.inr ((9 : Nat) : Int))), some (.inr (.inr a1)), some (.inl y1), some (.inl x3), some (.inl x4), some (.inl x5), some (.inl 0)] [] h Q)) ∧ ((h.2.2.2 15 y1.toNat) = 0 → (am_R (am_prog scr) (d + 1) f_Stage_tell 131 [some (.inr (.inr ((9 : Nat) : Int))), some (.inr (.inr a1)), some (.inl y1), some (.inl x3), some (.inl x4), some (.inl x5), some (.inl 1)] [] h Q)))))))))) ∧ (x5 = (-17) → ((¬ ((1 : Int) = 0) → (am_R (am_prog scr) (d + 1) f_Stage_tell 131 [some (.inr (.inr ((9 : Nat) : Int))), some (.inr (.inr a1)), some (.inl x2), some (.inl x3), some (.inl x4), some (.inl x5), some (.inl 1)] [] h Q)) ∧ ((1 : Int) = 0 → ((x2 ≤ 0 → (am_R (am_prog scr) (d + 1) f_Stage_tell 131 [some (.inr (.inr ((9 : Nat) : Int))), some (.inr (.inr a1)), some (.inl x2), some (.inl x3), some (.inl x4), some (.inl x5), some (.inl 1)] [] h Q)) ∧ (¬ (x2 ≤ 0) → (∀ y6 : Int, y6 = am_w (x2 + (-1)) → ((0 ≤ y6 ∧ y6 < 64) ∧ ((¬ ((h.2.2.2 15 y6.toNat) = 0) → (am_R (am_prog scr) (d + 1) f_Stage_tell 131 [some (.inr (.inr ((9 : Nat) : Int))), some (.inr (.inr a1)), some (.inl y6), some (.inl x3), some (.inl x4), some (.inl x5), some (.inl 0)] [] h Q)) ∧ ((h.2.2.2 15 y6.toNat) = 0 → (am_R (am_prog scr) (d + 1) f_Stage_tell 131 [some (.inr (.inr ((9 : Nat) : Int))), some (.inr (.inr a1)), some (.inl y6), some (.inl x3), some (.inl x4), some (.inl x5), some (.inl 1)] [] h Q))))))))))) : am_R (am_prog scr) (d + 1) f_Stage_tell 89 [some (.inr (.inr ((9 : Nat) : Int))), some (.inr (.inr a1)), some (.inl x2), some (.inl x3), some (.inl x4), some (.inl x5), none] [] h Q := by
  have hp : ∀ k, (am_prog scr).1 f_Stage_tell k = c_Stage_tell k := fun _ => rfl
  refine am_R.next ((hp 89).trans rfl) rfl ?_
  refine am_R.next ((hp 91).trans rfl) rfl ?_
  refine r_ic ((hp 93).trans rfl) (fun c11 => ?_) (fun c11 => ?_)
  · have H := H.1 c11
    refine am_R.next ((hp 100).trans rfl) rfl ?_
    refine am_R.next (lv' := [some (.inr (.inr ((9 : Nat) : Int))), some (.inr (.inr a1)), some (.inl x2), some (.inl x3), some (.inl x4), some (.inl x5), some (.inl 0)]) ((hp 101).trans rfl) rfl ?_
    refine am_R.next ((hp 103).trans rfl) rfl ?_
    refine r_if ((hp 105).trans rfl) (fun c5 => ?_) (fun c5 => ?_)
    · have H := H.1 c5
      exact H
    · have H := H.2 (Decidable.not_not.mp c5)
      refine am_R.next ((hp 108).trans rfl) rfl ?_
      refine r_if ((hp 109).trans rfl) (fun c4 => ?_) (fun c4 => ?_)
      · have H := H.1 c4
        exact H
      · have H := H.2 c4
        obtain ⟨y1, ey1⟩ : ∃ z : Int, z = am_w (x2 + (-1)) := ⟨_, rfl⟩
        have H := H y1 ey1
        refine am_R.next (lv' := [some (.inr (.inr ((9 : Nat) : Int))), some (.inr (.inr a1)), some (.inl y1), some (.inl x3), some (.inl x4), some (.inl x5), some (.inl 0)]) (st' := []) (h' := h) (pc' := 115) ((hp 112).trans rfl) (by rw [ey1]; rfl) ?_
        refine am_R.next ((hp 115).trans rfl) rfl ?_
        refine r_getR ((hp 116).trans rfl) (hw.o (i := 9) (by decide) rfl) (hw.r wr_9_5) ?_
        refine am_R.next ((hp 119).trans rfl) rfl ?_
        obtain ⟨c2, H⟩ := H
        refine r_iald ((hp 120).trans rfl) (hw.a (i := 15) (by decide) rfl c2.1 c2.2) ?_
        refine r_if ((hp 121).trans rfl) (fun c3 => ?_) (fun c3 => ?_)
        · have H := H.1 c3
          refine am_R.next ((hp 128).trans rfl) rfl ?_
          refine am_R.next (lv' := [some (.inr (.inr ((9 : Nat) : Int))), some (.inr (.inr a1)), some (.inl y1), some (.inl x3), some (.inl x4), some (.inl x5), some (.inl 0)]) ((hp 129).trans rfl) rfl ?_
          exact H
        · have H := H.2 (Decidable.not_not.mp c3)
          refine am_R.next ((hp 124).trans rfl) rfl ?_
          refine am_R.next ((hp 125).trans rfl) rfl ?_
          refine am_R.next (lv' := [some (.inr (.inr ((9 : Nat) : Int))), some (.inr (.inr a1)), some (.inl y1), some (.inl x3), some (.inl x4), some (.inl x5), some (.inl 1)]) ((hp 129).trans rfl) rfl ?_
          exact H
  · have H := H.2 (Decidable.not_not.mp c11)
    refine am_R.next ((hp 96).trans rfl) rfl ?_
    refine am_R.next ((hp 97).trans rfl) rfl ?_
    refine am_R.next (lv' := [some (.inr (.inr ((9 : Nat) : Int))), some (.inr (.inr a1)), some (.inl x2), some (.inl x3), some (.inl x4), some (.inl x5), some (.inl 1)]) ((hp 101).trans rfl) rfl ?_
    refine am_R.next ((hp 103).trans rfl) rfl ?_
    refine r_if ((hp 105).trans rfl) (fun c10 => ?_) (fun c10 => ?_)
    · have H := H.1 c10
      exact H
    · have H := H.2 (Decidable.not_not.mp c10)
      refine am_R.next ((hp 108).trans rfl) rfl ?_
      refine r_if ((hp 109).trans rfl) (fun c9 => ?_) (fun c9 => ?_)
      · have H := H.1 c9
        exact H
      · have H := H.2 c9
        obtain ⟨y6, ey6⟩ : ∃ z : Int, z = am_w (x2 + (-1)) := ⟨_, rfl⟩
        have H := H y6 ey6
        refine am_R.next (lv' := [some (.inr (.inr ((9 : Nat) : Int))), some (.inr (.inr a1)), some (.inl y6), some (.inl x3), some (.inl x4), some (.inl x5), some (.inl 1)]) (st' := []) (h' := h) (pc' := 115) ((hp 112).trans rfl) (by rw [ey6]; rfl) ?_
        refine am_R.next ((hp 115).trans rfl) rfl ?_
        refine r_getR ((hp 116).trans rfl) (hw.o (i := 9) (by decide) rfl) (hw.r wr_9_5) ?_
        refine am_R.next ((hp 119).trans rfl) rfl ?_
        obtain ⟨c7, H⟩ := H
        refine r_iald ((hp 120).trans rfl) (hw.a (i := 15) (by decide) rfl c7.1 c7.2) ?_
        refine r_if ((hp 121).trans rfl) (fun c8 => ?_) (fun c8 => ?_)
        · have H := H.1 c8
          refine am_R.next ((hp 128).trans rfl) rfl ?_
          refine am_R.next (lv' := [some (.inr (.inr ((9 : Nat) : Int))), some (.inr (.inr a1)), some (.inl y6), some (.inl x3), some (.inl x4), some (.inl x5), some (.inl 0)]) ((hp 129).trans rfl) rfl ?_
          exact H
        · have H := H.2 (Decidable.not_not.mp c8)
          refine am_R.next ((hp 124).trans rfl) rfl ?_
          refine am_R.next ((hp 125).trans rfl) rfl ?_
          refine am_R.next (lv' := [some (.inr (.inr ((9 : Nat) : Int))), some (.inr (.inr a1)), some (.inl y6), some (.inl x3), some (.inl x4), some (.inl x5), some (.inl 1)]) ((hp 129).trans rfl) rfl ?_
          exact H
theorem w_Stage_tell_131 {scr : Nat × (Nat → Int)} {d : Nat} {h : am_H} {Q : Option am_V → am_H → Prop} {x2 x3 x4 x5 x6 a1 : Int} (hs : am_sc scr) (hw : wf h) (H : (x6 = 0 → (∀ y1 : Int, y1 = am_w (x3 + 2) → (∀ y2 : Int, y2 = am_w (x4 + 1) → (am_R (am_prog scr) (d + 1) f_Stage_tell 7 [some (.inr (.inr ((9 : Nat) : Int))), some (.inr (.inr a1)), some (.inl x2), some (.inl y1), some (.inl y2), none, none] [] h Q)))) ∧ (¬ (x6 = 0) → ((0 ≤ a1 ∧ 1 ≤ (h.2.2.1 a1.toNat).1 ∧ (h.2.2.1 a1.toNat).1 ≤ 6 ∧ (h.2.2.1 a1.toNat).2 ≤ 1000000) ∧ ((¬ ((am_w (x3 + 1)) < ((h.2.2.1 a1.toNat).2 : Int)) → (∀ y4 : Int, y4 = am_w (x3 + 2) → (∀ y5 : Int, y5 = am_w (x4 + 1) → (am_R (am_prog scr) (d + 1) f_Stage_tell 7 [some (.inr (.inr ((9 : Nat) : Int))), some (.inr (.inr a1)), some (.inl x2), some (.inl y4), some (.inl y5), none, none] [] h Q)))) ∧ ((am_w (x3 + 1)) < ((h.2.2.1 a1.toNat).2 : Int) → (am_inA h a1 1 (am_w (x3 + 1)) ∧ (∀ y7 : Int, y7 = h.2.2.2 a1.toNat ((am_w (x3 + 1)).toNat) → (∀ y8 : Int, y8 = am_w (x4 + 1) → (am_R (am_prog scr) (d + 1) f_Stage_tell 7 [some (.inr (.inr ((9 : Nat) : Int))), some (.inr (.inr a1)), some (.inl x2), some (.inl y7), some (.inl y8), none, none] [] h Q))))))))) : am_R (am_prog scr) (d + 1) f_Stage_tell 131 [some (.inr (.inr ((9 : Nat) : Int))), some (.inr (.inr a1)), some (.inl x2), some (.inl x3), some (.inl x4), some (.inl x5), some (.inl x6)] [] h Q := by
  have hp : ∀ k, (am_prog scr).1 f_Stage_tell k = c_Stage_tell k := fun _ => rfl
  refine am_R.next ((hp 131).trans rfl) rfl ?_
  refine r_if ((hp 133).trans rfl) (fun c10 => ?_) (fun c10 => ?_)
  · have H := H.1 c10
    refine am_R.next ((hp 152).trans rfl) rfl ?_
    refine am_R.next ((hp 153).trans rfl) rfl ?_
    refine am_R.next ((hp 154).trans rfl) rfl ?_
    obtain ⟨y1, ey1⟩ : ∃ z : Int, z = am_w (x3 + 2) := ⟨_, rfl⟩
    have H := H y1 ey1
    refine am_R.next (lv' := [some (.inr (.inr ((9 : Nat) : Int))), some (.inr (.inr a1)), some (.inl x2), some (.inl y1), some (.inl x4), some (.inl x5), some (.inl x6)]) (st' := []) (h' := h) (pc' := 156) ((hp 155).trans rfl) (by rw [ey1]; rfl) ?_
    refine am_R.next ((hp 156).trans rfl) rfl ?_
    obtain ⟨y2, ey2⟩ : ∃ z : Int, z = am_w (x4 + 1) := ⟨_, rfl⟩
    have H := H y2 ey2
    refine am_R.next (lv' := [some (.inr (.inr ((9 : Nat) : Int))), some (.inr (.inr a1)), some (.inl x2), some (.inl y1), some (.inl y2), some (.inl x5), some (.inl x6)]) (st' := []) (h' := h) (pc' := 234) ((hp 231).trans rfl) (by rw [ey2]; rfl) ?_
    refine am_R.next ((hp 234).trans rfl) rfl ?_
    exact r_le hs in_265 (le_k (le_k (le_k (le_k (le_k (le_d (le_d le_n))))))) H
  · have H := H.2 c10
    refine am_R.next ((hp 136).trans rfl) rfl ?_
    refine am_R.next ((hp 137).trans rfl) rfl ?_
    refine am_R.next ((hp 138).trans rfl) rfl ?_
    refine am_R.next ((hp 139).trans rfl) rfl ?_
    obtain ⟨c3, H⟩ := H
    refine r_alen ((hp 140).trans rfl) c3 rfl ?_
    refine r_ic ((hp 141).trans rfl) (fun c9 => ?_) (fun c9 => ?_)
    · have H := H.1 c9
      refine am_R.next ((hp 152).trans rfl) rfl ?_
      refine am_R.next ((hp 153).trans rfl) rfl ?_
      refine am_R.next ((hp 154).trans rfl) rfl ?_
      obtain ⟨y4, ey4⟩ : ∃ z : Int, z = am_w (x3 + 2) := ⟨_, rfl⟩
      have H := H y4 ey4
      refine am_R.next (lv' := [some (.inr (.inr ((9 : Nat) : Int))), some (.inr (.inr a1)), some (.inl x2), some (.inl y4), some (.inl x4), some (.inl x5), some (.inl x6)]) (st' := []) (h' := h) (pc' := 156) ((hp 155).trans rfl) (by rw [ey4]; rfl) ?_
      refine am_R.next ((hp 156).trans rfl) rfl ?_
      obtain ⟨y5, ey5⟩ : ∃ z : Int, z = am_w (x4 + 1) := ⟨_, rfl⟩
      have H := H y5 ey5
      refine am_R.next (lv' := [some (.inr (.inr ((9 : Nat) : Int))), some (.inr (.inr a1)), some (.inl x2), some (.inl y4), some (.inl y5), some (.inl x5), some (.inl x6)]) (st' := []) (h' := h) (pc' := 234) ((hp 231).trans rfl) (by rw [ey5]; rfl) ?_
      refine am_R.next ((hp 234).trans rfl) rfl ?_
      exact r_le hs in_265 (le_k (le_k (le_k (le_k (le_k (le_d (le_d le_n))))))) H
    · have H := H.2 (Decidable.not_not.mp c9)
      refine am_R.next ((hp 144).trans rfl) rfl ?_
      refine am_R.next ((hp 145).trans rfl) rfl ?_
      refine am_R.next ((hp 146).trans rfl) rfl ?_
      refine am_R.next ((hp 147).trans rfl) rfl ?_
      obtain ⟨c6, H⟩ := H
      refine r_iald ((hp 148).trans rfl) c6 ?_
      refine am_R.next ((hp 149).trans rfl) rfl ?_
      obtain ⟨y7, ey7⟩ : ∃ z : Int, z = h.2.2.2 a1.toNat ((am_w (x3 + 1)).toNat) := ⟨_, rfl⟩
      have H := H y7 ey7
      refine am_R.next (lv' := [some (.inr (.inr ((9 : Nat) : Int))), some (.inr (.inr a1)), some (.inl x2), some (.inl y7), some (.inl x4), some (.inl x5), some (.inl x6)]) (st' := []) (h' := h) (pc' := 156) ((hp 155).trans rfl) (by rw [ey7]; rfl) ?_
      refine am_R.next ((hp 156).trans rfl) rfl ?_
      obtain ⟨y8, ey8⟩ : ∃ z : Int, z = am_w (x4 + 1) := ⟨_, rfl⟩
      have H := H y8 ey8
      refine am_R.next (lv' := [some (.inr (.inr ((9 : Nat) : Int))), some (.inr (.inr a1)), some (.inl x2), some (.inl y7), some (.inl y8), some (.inl x5), some (.inl x6)]) (st' := []) (h' := h) (pc' := 234) ((hp 231).trans rfl) (by rw [ey8]; rfl) ?_
      refine am_R.next ((hp 234).trans rfl) rfl ?_
      exact r_le hs in_265 (le_k (le_k (le_k (le_k (le_k (le_d (le_d le_n))))))) H
theorem w_Stage_tell_191 {scr : Nat × (Nat → Int)} {d : Nat} {h : am_H} {Q : Option am_V → am_H → Prop} {x2 x3 x4 x5 a1 : Int} (hs : am_sc scr) (hw : wf h) (H : (x2 ≤ 1 → (∀ y1 : Int, y1 = am_w (x3 + 1) → (∀ y2 : Int, y2 = am_w (x4 + 1) → (am_R (am_prog scr) (d + 1) f_Stage_tell 7 [some (.inr (.inr ((9 : Nat) : Int))), some (.inr (.inr a1)), some (.inl x2), some (.inl y1), some (.inl y2), none, none] [] h Q)))) ∧ (¬ (x2 ≤ 1) → (∀ y3 : Int, y3 = am_w (x2 + (-1)) → ((0 ≤ (am_w (y3 - 1)) ∧ (am_w (y3 - 1)) < 64) ∧ ((0 ≤ y3 ∧ y3 < 64) ∧ (am_R (am_prog scr) d f_Stage_combined 0 [some (.inl x5), some (.inr (.inl (h.2.2.2 15 ((am_w (y3 - 1)).toNat)))), none, some (.inr (.inl (h.2.2.2 15 y3.toNat))), none, none, none] [] h (fun v g6 => ∃ r7 : Int, v = some (.inl r7) ∧ wf g6 ∧ (((0 ≤ (am_w (y3 - 1)) ∧ (am_w (y3 - 1)) < 64)) ∧ (∀ h9 : am_H, h9 = am_put g6 15 ((am_w (y3 - 1)).toNat) r7 → (∀ y10 : Int, y10 = am_w (x3 + 1) → (∀ y11 : Int, y11 = am_w (x4 + 1) → (am_R (am_prog scr) (d + 1) f_Stage_tell 7 [some (.inr (.inr ((9 : Nat) : Int))), some (.inr (.inr a1)), some (.inl y3), some (.inl y10), some (.inl y11), none, none] [] h9 Q)))))))))))) : am_R (am_prog scr) (d + 1) f_Stage_tell 191 [some (.inr (.inr ((9 : Nat) : Int))), some (.inr (.inr a1)), some (.inl x2), some (.inl x3), some (.inl x4), some (.inl x5), none] [] h Q := by
  have hp : ∀ k, (am_prog scr).1 f_Stage_tell k = c_Stage_tell k := fun _ => rfl
  refine am_R.next ((hp 191).trans rfl) rfl ?_
  refine am_R.next ((hp 192).trans rfl) rfl ?_
  refine r_ic ((hp 193).trans rfl) (fun c12 => ?_) (fun c12 => ?_)
  · have H := H.1 c12
    obtain ⟨y1, ey1⟩ : ∃ z : Int, z = am_w (x3 + 1) := ⟨_, rfl⟩
    have H := H y1 ey1
    refine am_R.next (lv' := [some (.inr (.inr ((9 : Nat) : Int))), some (.inr (.inr a1)), some (.inl x2), some (.inl y1), some (.inl x4), some (.inl x5), none]) (st' := []) (h' := h) (pc' := 231) ((hp 228).trans rfl) (by rw [ey1]; rfl) ?_
    obtain ⟨y2, ey2⟩ : ∃ z : Int, z = am_w (x4 + 1) := ⟨_, rfl⟩
    have H := H y2 ey2
    refine am_R.next (lv' := [some (.inr (.inr ((9 : Nat) : Int))), some (.inr (.inr a1)), some (.inl x2), some (.inl y1), some (.inl y2), some (.inl x5), none]) (st' := []) (h' := h) (pc' := 234) ((hp 231).trans rfl) (by rw [ey2]; rfl) ?_
    refine am_R.next ((hp 234).trans rfl) rfl ?_
    exact r_le hs in_265 (le_k (le_k (le_k (le_k (le_k (le_d (le_k le_n))))))) H
  · have H := H.2 c12
    obtain ⟨y3, ey3⟩ : ∃ z : Int, z = am_w (x2 + (-1)) := ⟨_, rfl⟩
    have H := H y3 ey3
    refine am_R.next (lv' := [some (.inr (.inr ((9 : Nat) : Int))), some (.inr (.inr a1)), some (.inl y3), some (.inl x3), some (.inl x4), some (.inl x5), none]) (st' := []) (h' := h) (pc' := 199) ((hp 196).trans rfl) (by rw [ey3]; rfl) ?_
    refine am_R.next ((hp 199).trans rfl) rfl ?_
    refine r_getR ((hp 200).trans rfl) (hw.o (i := 9) (by decide) rfl) (hw.r wr_9_5) ?_
    refine am_R.next ((hp 203).trans rfl) rfl ?_
    refine am_R.next ((hp 204).trans rfl) rfl ?_
    refine am_R.next ((hp 205).trans rfl) rfl ?_
    refine am_R.next ((hp 206).trans rfl) rfl ?_
    refine am_R.next ((hp 208).trans rfl) rfl ?_
    refine r_getR ((hp 209).trans rfl) (hw.o (i := 9) (by decide) rfl) (hw.r wr_9_5) ?_
    refine am_R.next ((hp 212).trans rfl) rfl ?_
    refine am_R.next ((hp 213).trans rfl) rfl ?_
    refine am_R.next ((hp 214).trans rfl) rfl ?_
    obtain ⟨c4, H⟩ := H
    refine r_iald ((hp 215).trans rfl) (hw.a (i := 15) (by decide) rfl c4.1 c4.2) ?_
    refine am_R.next ((hp 216).trans rfl) rfl ?_
    refine am_R.next ((hp 217).trans rfl) rfl ?_
    refine r_getR ((hp 218).trans rfl) (hw.o (i := 9) (by decide) rfl) (hw.r wr_9_5) ?_
    refine am_R.next ((hp 221).trans rfl) rfl ?_
    obtain ⟨c5, H⟩ := H
    refine r_iald ((hp 222).trans rfl) (hw.a (i := 15) (by decide) rfl c5.1 c5.2) ?_
    refine am_R.next ((hp 223).trans rfl) rfl ?_
    refine r_cs (as := [.inl x5, .inr (.inl (h.2.2.2 15 ((am_w (y3 - 1)).toNat))), .inr (.inl (h.2.2.2 15 y3.toNat))]) (st' := [.inl (am_w (y3 - 1)), .inr (.inr ((15 : Nat) : Int))]) ((hp 224).trans rfl) rfl rfl (Nat.le_of_ble_eq_true rfl) (Nat.le_of_ble_eq_true rfl) (am_R.post H (fun v g6 hq => ?_))
    obtain ⟨r7, rfl, hw, H⟩ := hq
    change am_R _ _ _ _ _ [.inl r7, .inl (am_w (y3 - 1)), .inr (.inr ((15 : Nat) : Int))] _ _
    obtain ⟨c8, H⟩ := H
    obtain ⟨h9, eh9⟩ : ∃ z : am_H, z = am_put g6 15 ((am_w (y3 - 1)).toNat) r7 := ⟨_, rfl⟩
    have H := H h9 eh9
    refine r_iast ((hp 227).trans rfl) (hw.a (i := 15) (by decide) rfl c8.1 c8.2) ?_
    have hw : wf h9 := by rw [eh9]; exact hw.pa na_15
    change am_R _ _ _ _ _ _ (am_put g6 15 ((am_w (y3 - 1)).toNat) r7) _
    rw [← eh9]
    obtain ⟨y10, ey10⟩ : ∃ z : Int, z = am_w (x3 + 1) := ⟨_, rfl⟩
    have H := H y10 ey10
    refine am_R.next (lv' := [some (.inr (.inr ((9 : Nat) : Int))), some (.inr (.inr a1)), some (.inl y3), some (.inl y10), some (.inl x4), some (.inl x5), none]) (st' := []) (h' := h9) (pc' := 231) ((hp 228).trans rfl) (by rw [ey10]; rfl) ?_
    obtain ⟨y11, ey11⟩ : ∃ z : Int, z = am_w (x4 + 1) := ⟨_, rfl⟩
    have H := H y11 ey11
    refine am_R.next (lv' := [some (.inr (.inr ((9 : Nat) : Int))), some (.inr (.inr a1)), some (.inl y3), some (.inl y10), some (.inl y11), some (.inl x5), none]) (st' := []) (h' := h9) (pc' := 234) ((hp 231).trans rfl) (by rw [ey11]; rfl) ?_
    refine am_R.next ((hp 234).trans rfl) rfl ?_
    exact r_le hs in_265 (le_k (le_k (le_k (le_k (le_k (le_d (le_k le_n))))))) H
theorem w_Stage_endsIn_0 {scr : Nat × (Nat → Int)} {d : Nat} {h : am_H} {Q : Option am_V → am_H → Prop} {x2 : Int} {p1 : Nat} (hp1 : p1 ∈ PL) (hs : am_sc scr) (hw : wf h) (H : ∀ h1 : am_H, h1 = am_put h 9 7 (am_w ((h.2.2.2 9 7) + 1)) → (am_R (am_prog scr) (d + 1) f_Stage_endsIn 12 [some (.inr (.inr ((9 : Nat) : Int))), some (.inr (.inr ((p1 : Nat) : Int))), some (.inl x2), some (.inl 0), none] [] h1 Q)) : am_R (am_prog scr) (d + 1) f_Stage_endsIn 0 [some (.inr (.inr ((9 : Nat) : Int))), some (.inr (.inr ((p1 : Nat) : Int))), some (.inl x2), none, none] [] h Q := by
  have hp : ∀ k, (am_prog scr).1 f_Stage_endsIn k = c_Stage_endsIn k := fun _ => rfl
  refine am_R.next ((hp 0).trans rfl) rfl ?_
  refine am_R.next ((hp 1).trans rfl) rfl ?_
  refine r_getI ((hp 2).trans rfl) (hw.o (i := 9) (by decide) rfl) ?_
  refine am_R.next ((hp 5).trans rfl) rfl ?_
  refine am_R.next ((hp 6).trans rfl) rfl ?_
  obtain ⟨h1, eh1⟩ : ∃ z : am_H, z = am_put h 9 7 (am_w ((h.2.2.2 9 7) + 1)) := ⟨_, rfl⟩
  have H := H h1 eh1
  refine r_putI ((hp 7).trans rfl) (hw.o (i := 9) (by decide) rfl) ?_
  have hw : wf h1 := by rw [eh1]; exact hw.put np_9_7
  change am_R _ _ _ _ _ _ (am_put h 9 7 (am_w ((h.2.2.2 9 7) + 1))) _
  rw [← eh1]
  refine am_R.next ((hp 10).trans rfl) rfl ?_
  refine am_R.next (lv' := [some (.inr (.inr ((9 : Nat) : Int))), some (.inr (.inr ((p1 : Nat) : Int))), some (.inl x2), some (.inl 0), none]) ((hp 11).trans rfl) rfl ?_
  exact H
theorem w_Stage_endsIn_12 {scr : Nat × (Nat → Int)} {d : Nat} {h : am_H} {Q : Option am_V → am_H → Prop} {x2 x3 : Int} {p1 : Nat} (hp1 : p1 ∈ PL) (hs : am_sc scr) (hw : wf h) (H : (x2 < x3 → (Q (some (.inl (-1))) h)) ∧ (¬ (x2 < x3) → (((h.2.2.2 p1 8) = 0 → (am_R (am_prog scr) d f_Play_hasEnded 0 [some (.inr (.inr ((p1 : Nat) : Int)))] [] h (fun v g1 => ∃ r2 : Int, v = some (.inl r2) ∧ wf g1 ∧ ((r2 = 0 → (am_R (am_prog scr) d f_Play_node 0 [some (.inr (.inr ((p1 : Nat) : Int)))] [] g1 (fun v g3 => ∃ r4 : Int, v = some (.inl r4) ∧ wf g3 ∧ ((0 ≤ r4 ∧ r4 < 180) ∧ ((¬ ((g3.2.2.2 16 r4.toNat) = (g3.2.2.2 9 7)) → (((0 ≤ r4 ∧ r4 < 180)) ∧ (∀ h7 : am_H, h7 = am_put g3 16 r4.toNat (g3.2.2.2 9 7) → (am_R (am_prog scr) d f_Stage_step 0 [some (.inr (.inr ((9 : Nat) : Int))), some (.inr (.inr ((p1 : Nat) : Int))), some (.inl (-1)), none, none, none, none] [] h7 (fun v g8 => ∃ r9 : Int, v = some (.inl r9) ∧ wf g8 ∧ (∀ y10 : Int, y10 = am_w (x3 + 1) → (am_R (am_prog scr) (d + 1) f_Stage_endsIn 12 [some (.inr (.inr ((9 : Nat) : Int))), some (.inr (.inr ((p1 : Nat) : Int))), some (.inl x2), some (.inl y10), none] [] g8 Q))))))) ∧ ((g3.2.2.2 16 r4.toNat) = (g3.2.2.2 9 7) → (Q (some (.inl (-1))) g3))))))) ∧ (¬ (r2 = 0) → (Q (some (.inl x3)) g1)))))) ∧ (¬ ((h.2.2.2 p1 8) = 0) → (Q (some (.inl (-1))) h))))) : am_R (am_prog scr) (d + 1) f_Stage_endsIn 12 [some (.inr (.inr ((9 : Nat) : Int))), some (.inr (.inr ((p1 : Nat) : Int))), some (.inl x2), some (.inl x3), none] [] h Q := by
  have hp : ∀ k, (am_prog scr).1 f_Stage_endsIn k = c_Stage_endsIn k := fun _ => rfl
  refine am_R.next ((hp 12).trans rfl) rfl ?_
  refine am_R.next ((hp 13).trans rfl) rfl ?_
  refine r_ic ((hp 14).trans rfl) (fun c14 => ?_) (fun c14 => ?_)
  · have H := H.1 c14
    refine am_R.next ((hp 81).trans rfl) rfl ?_
    exact am_R.ret ((hp 82).trans rfl) rfl H
  · have H := H.2 c14
    refine am_R.next ((hp 17).trans rfl) rfl ?_
    refine r_getI ((hp 18).trans rfl) (pl_o hp1 hw) ?_
    refine r_if ((hp 21).trans rfl) (fun c13 => ?_) (fun c13 => ?_)
    · have H := H.1 c13
      refine am_R.next ((hp 26).trans rfl) rfl ?_
      refine r_cv (bs := []) (st' := []) ((hp 27).trans rfl) (pl_o hp1 hw) rfl rfl (Nat.le_of_ble_eq_true rfl) (Nat.le_of_ble_eq_true rfl) (am_R.post H (fun v g1 hq => ?_))
      obtain ⟨r2, rfl, hw, H⟩ := hq
      change am_R _ _ _ _ _ [.inl r2] _ _
      refine r_if ((hp 30).trans rfl) (fun c12 => ?_) (fun c12 => ?_)
      · have H := H.1 c12
        refine am_R.next ((hp 35).trans rfl) rfl ?_
        refine r_cv (bs := []) (st' := []) ((hp 36).trans rfl) (pl_o hp1 hw) rfl rfl (Nat.le_of_ble_eq_true rfl) (Nat.le_of_ble_eq_true rfl) (am_R.post H (fun v g3 hq => ?_))
        obtain ⟨r4, rfl, hw, H⟩ := hq
        change am_R _ _ _ _ _ [.inl r4] _ _
        refine am_R.next (lv' := [some (.inr (.inr ((9 : Nat) : Int))), some (.inr (.inr ((p1 : Nat) : Int))), some (.inl x2), some (.inl x3), some (.inl r4)]) ((hp 39).trans rfl) rfl ?_
        refine am_R.next ((hp 41).trans rfl) rfl ?_
        refine r_getR ((hp 42).trans rfl) (hw.o (i := 9) (by decide) rfl) (hw.r wr_9_6) ?_
        refine am_R.next ((hp 45).trans rfl) rfl ?_
        obtain ⟨c5, H⟩ := H
        refine r_iald ((hp 47).trans rfl) (hw.a (i := 16) (by decide) rfl c5.1 c5.2) ?_
        refine am_R.next ((hp 48).trans rfl) rfl ?_
        refine r_getI ((hp 49).trans rfl) (hw.o (i := 9) (by decide) rfl) ?_
        refine r_ic ((hp 52).trans rfl) (fun c11 => ?_) (fun c11 => ?_)
        · have H := H.1 c11
          refine am_R.next ((hp 57).trans rfl) rfl ?_
          refine r_getR ((hp 58).trans rfl) (hw.o (i := 9) (by decide) rfl) (hw.r wr_9_6) ?_
          refine am_R.next ((hp 61).trans rfl) rfl ?_
          refine am_R.next ((hp 63).trans rfl) rfl ?_
          refine r_getI ((hp 64).trans rfl) (hw.o (i := 9) (by decide) rfl) ?_
          obtain ⟨c6, H⟩ := H
          obtain ⟨h7, eh7⟩ : ∃ z : am_H, z = am_put g3 16 r4.toNat (g3.2.2.2 9 7) := ⟨_, rfl⟩
          have H := H h7 eh7
          refine r_iast ((hp 67).trans rfl) (hw.a (i := 16) (by decide) rfl c6.1 c6.2) ?_
          have hw : wf h7 := by rw [eh7]; exact hw.pa na_16
          change am_R _ _ _ _ _ _ (am_put g3 16 r4.toNat (g3.2.2.2 9 7)) _
          rw [← eh7]
          refine am_R.next ((hp 68).trans rfl) rfl ?_
          refine am_R.next ((hp 69).trans rfl) rfl ?_
          refine am_R.next ((hp 70).trans rfl) rfl ?_
          refine r_cv (bs := [.inr (.inr ((p1 : Nat) : Int)), .inl (-1)]) (st' := []) ((hp 71).trans rfl) (hw.o (i := 9) (by decide) rfl) rfl rfl (Nat.le_of_ble_eq_true rfl) (Nat.le_of_ble_eq_true rfl) (am_R.post H (fun v g8 hq => ?_))
          obtain ⟨r9, rfl, hw, H⟩ := hq
          change am_R _ _ _ _ _ [.inl r9] _ _
          refine am_R.next ((hp 74).trans rfl) rfl ?_
          obtain ⟨y10, ey10⟩ : ∃ z : Int, z = am_w (x3 + 1) := ⟨_, rfl⟩
          have H := H y10 ey10
          refine am_R.next (lv' := [some (.inr (.inr ((9 : Nat) : Int))), some (.inr (.inr ((p1 : Nat) : Int))), some (.inl x2), some (.inl y10), some (.inl r4)]) (st' := []) (h' := g8) (pc' := 78) ((hp 75).trans rfl) (by rw [ey10]; rfl) ?_
          refine am_R.next ((hp 78).trans rfl) rfl ?_
          exact r_le hs in_267 (le_k (le_k (le_k (le_k (le_d le_n))))) H
        · have H := H.2 (Decidable.not_not.mp c11)
          refine am_R.next ((hp 55).trans rfl) rfl ?_
          exact am_R.ret ((hp 56).trans rfl) rfl H
      · have H := H.2 c12
        refine am_R.next ((hp 33).trans rfl) rfl ?_
        exact am_R.ret ((hp 34).trans rfl) rfl H
    · have H := H.2 c13
      refine am_R.next ((hp 24).trans rfl) rfl ?_
      exact am_R.ret ((hp 25).trans rfl) rfl H
theorem w_Tally_begin_0 {scr : Nat × (Nat → Int)} {d : Nat} {h : am_H} {Q : Option am_V → am_H → Prop} (hs : am_sc scr) (hw : wf h) (H : am_R (am_prog scr) d f_jA_fill 0 [some (.inr (.inr (h.2.2.2 43 1))), some (.inr (.inl 0)), none, none, none] [] h (fun v g1 => v = none ∧ wf g1 ∧ ((am_inA g1 (g1.2.2.2 43 1) 2 (g1.2.2.2 30 5)) ∧ ((((g1.2.2.2 43 1).toNat) ∉ wr_o) ∧ (∀ h4 : am_H, h4 = am_put g1 ((g1.2.2.2 43 1).toNat) ((g1.2.2.2 30 5).toNat) 1 → (Q none h4)))))) : am_R (am_prog scr) (d + 1) f_Tally_begin 0 [some (.inr (.inr ((43 : Nat) : Int)))] [] h Q := by
  have hp : ∀ k, (am_prog scr).1 f_Tally_begin k = c_Tally_begin k := fun _ => rfl
  refine am_R.next ((hp 0).trans rfl) rfl ?_
  refine r_getR ((hp 1).trans rfl) (hw.o (i := 43) (by decide) rfl) rfl ?_
  refine am_R.next ((hp 4).trans rfl) rfl ?_
  refine r_cs (as := [.inr (.inr (h.2.2.2 43 1)), .inr (.inl 0)]) (st' := []) ((hp 5).trans rfl) rfl rfl (Nat.le_of_ble_eq_true rfl) (Nat.le_of_ble_eq_true rfl) (am_R.post H (fun v g1 hq => ?_))
  obtain ⟨rfl, hw, H⟩ := hq
  change am_R _ _ _ _ _ [] _ _
  refine am_R.next ((hp 8).trans rfl) rfl ?_
  refine r_getR ((hp 9).trans rfl) (hw.o (i := 43) (by decide) rfl) rfl ?_
  refine am_R.next ((hp 12).trans rfl) rfl ?_
  refine r_getR ((hp 13).trans rfl) (hw.o (i := 43) (by decide) rfl) (hw.r wr_43_0) ?_
  refine r_getI ((hp 16).trans rfl) (hw.o (i := 30) (by decide) rfl) ?_
  refine am_R.next ((hp 19).trans rfl) rfl ?_
  obtain ⟨c2, H⟩ := H
  obtain ⟨c3, H⟩ := H
  obtain ⟨h4, eh4⟩ : ∃ z : am_H, z = am_put g1 ((g1.2.2.2 43 1).toNat) ((g1.2.2.2 30 5).toNat) 1 := ⟨_, rfl⟩
  have H := H h4 eh4
  refine r_last ((hp 20).trans rfl) c2 ?_
  have hw : wf h4 := by rw [eh4]; exact hw.pa c3
  change am_R _ _ _ _ _ _ (am_put g1 ((g1.2.2.2 43 1).toNat) ((g1.2.2.2 30 5).toNat) 1) _
  rw [← eh4]
  exact am_R.ret ((hp 21).trans rfl) rfl H
theorem w_Tally_endBeat_0 {scr : Nat × (Nat → Int)} {d : Nat} {h : am_H} {Q : Option am_V → am_H → Prop} (hs : am_sc scr) (hw : wf h) (H : (-1 ≤ (h.2.2.2 43 2)) ∧ (∀ h2 : am_H, h2 = am_put h 43 1 (h.2.2.2 43 2) → ((-1 ≤ (h.2.2.2 43 1)) ∧ (∀ h4 : am_H, h4 = am_put h2 43 2 (h.2.2.2 43 1) → (Q none h4))))) : am_R (am_prog scr) d f_Tally_endBeat 0 [some (.inr (.inr ((43 : Nat) : Int))), none] [] h Q := by
  have hp : ∀ k, (am_prog scr).1 f_Tally_endBeat k = c_Tally_endBeat k := fun _ => rfl
  refine am_R.next ((hp 0).trans rfl) rfl ?_
  refine r_getR ((hp 1).trans rfl) (hw.o (i := 43) (by decide) rfl) rfl ?_
  refine am_R.next (lv' := [some (.inr (.inr ((43 : Nat) : Int))), some (.inr (.inr (h.2.2.2 43 1)))]) ((hp 4).trans rfl) rfl ?_
  refine am_R.next ((hp 5).trans rfl) rfl ?_
  refine am_R.next ((hp 6).trans rfl) rfl ?_
  refine r_getR ((hp 7).trans rfl) (hw.o (i := 43) (by decide) rfl) rfl ?_
  obtain ⟨c1, H⟩ := H
  obtain ⟨h2, eh2⟩ : ∃ z : am_H, z = am_put h 43 1 (h.2.2.2 43 2) := ⟨_, rfl⟩
  have H := H h2 eh2
  refine r_putR ((hp 10).trans rfl) (hw.o (i := 43) (by decide) rfl) c1 ?_
  have hw : wf h2 := by rw [eh2]; exact hw.put np_43_1
  change am_R _ _ _ _ _ _ (am_put h 43 1 (h.2.2.2 43 2)) _
  rw [← eh2]
  refine am_R.next ((hp 13).trans rfl) rfl ?_
  refine am_R.next ((hp 14).trans rfl) rfl ?_
  obtain ⟨c3, H⟩ := H
  obtain ⟨h4, eh4⟩ : ∃ z : am_H, z = am_put h2 43 2 (h.2.2.2 43 1) := ⟨_, rfl⟩
  have H := H h4 eh4
  refine r_putR ((hp 15).trans rfl) (hw.o (i := 43) (by decide) rfl) c3 ?_
  have hw : wf h4 := by rw [eh4]; exact hw.put np_43_2
  change am_R _ _ _ _ _ _ (am_put h2 43 2 (h.2.2.2 43 1)) _
  rw [← eh4]
  exact am_R.ret ((hp 18).trans rfl) rfl H
theorem w_Tally_rowsOf_0 {scr : Nat × (Nat → Int)} {d : Nat} {h : am_H} {Q : Option am_V → am_H → Prop} {x1 x2 : Int} (hs : am_sc scr) (hw : wf h) (H : am_R (am_prog scr) d f_Tally_begin 0 [some (.inr (.inr ((43 : Nat) : Int)))] [] h (fun v g1 => v = none ∧ wf g1 ∧ (am_R (am_prog scr) (d + 1) f_Tally_rowsOf 6 [some (.inr (.inr ((43 : Nat) : Int))), some (.inl x1), some (.inl x2), some (.inl 0), none, none, none] [] g1 Q))) : am_R (am_prog scr) (d + 1) f_Tally_rowsOf 0 [some (.inr (.inr ((43 : Nat) : Int))), some (.inl x1), some (.inl x2), none, none, none, none] [] h Q := by
  have hp : ∀ k, (am_prog scr).1 f_Tally_rowsOf k = c_Tally_rowsOf k := fun _ => rfl
  refine am_R.next ((hp 0).trans rfl) rfl ?_
  refine r_cv (bs := []) (st' := []) ((hp 1).trans rfl) (hw.o (i := 43) (by decide) rfl) rfl rfl (Nat.le_of_ble_eq_true rfl) (Nat.le_of_ble_eq_true rfl) (am_R.post H (fun v g1 hq => ?_))
  obtain ⟨rfl, hw, H⟩ := hq
  change am_R _ _ _ _ _ [] _ _
  refine am_R.next ((hp 4).trans rfl) rfl ?_
  refine am_R.next (lv' := [some (.inr (.inr ((43 : Nat) : Int))), some (.inl x1), some (.inl x2), some (.inl 0), none, none, none]) ((hp 5).trans rfl) rfl ?_
  exact H
theorem w_Tally_rowsOf_6 {scr : Nat × (Nat → Int)} {d : Nat} {h : am_H} {Q : Option am_V → am_H → Prop} {x1 x2 x3 : Int} (hs : am_sc scr) (hw : wf h) (H : (¬ (x3 < x2) → (am_R (am_prog scr) (d + 1) f_Tally_rowsOf 122 [some (.inr (.inr ((43 : Nat) : Int))), some (.inl x1), some (.inl x2), some (.inr (.inl 0)), none, some (.inl 0), none] [] h Q)) ∧ (x3 < x2 → (am_R (am_prog scr) d f_jA_fill 0 [some (.inr (.inr (h.2.2.2 43 2))), some (.inr (.inl 0)), none, none, none] [] h (fun v g1 => v = none ∧ wf g1 ∧ (am_R (am_prog scr) (d + 1) f_Tally_rowsOf 22 [some (.inr (.inr ((43 : Nat) : Int))), some (.inl x1), some (.inl x2), some (.inl x3), some (.inl 0), none, none] [] g1 Q))))) : am_R (am_prog scr) (d + 1) f_Tally_rowsOf 6 [some (.inr (.inr ((43 : Nat) : Int))), some (.inl x1), some (.inl x2), some (.inl x3), none, none, none] [] h Q := by
  have hp : ∀ k, (am_prog scr).1 f_Tally_rowsOf k = c_Tally_rowsOf k := fun _ => rfl
  refine am_R.next ((hp 6).trans rfl) rfl ?_
  refine am_R.next ((hp 7).trans rfl) rfl ?_
  refine r_ic ((hp 8).trans rfl) (fun c2 => ?_) (fun c2 => ?_)
  · have H := H.1 c2
    refine am_R.next ((hp 117).trans rfl) rfl ?_
    refine am_R.next (lv' := [some (.inr (.inr ((43 : Nat) : Int))), some (.inl x1), some (.inl x2), some (.inr (.inl 0)), none, none, none]) ((hp 118).trans rfl) rfl ?_
    refine am_R.next ((hp 119).trans rfl) rfl ?_
    refine am_R.next (lv' := [some (.inr (.inr ((43 : Nat) : Int))), some (.inl x1), some (.inl x2), some (.inr (.inl 0)), none, some (.inl 0), none]) ((hp 120).trans rfl) rfl ?_
    exact H
  · have H := H.2 (Decidable.not_not.mp c2)
    refine am_R.next ((hp 11).trans rfl) rfl ?_
    refine r_getR ((hp 12).trans rfl) (hw.o (i := 43) (by decide) rfl) rfl ?_
    refine am_R.next ((hp 15).trans rfl) rfl ?_
    refine r_cs (as := [.inr (.inr (h.2.2.2 43 2)), .inr (.inl 0)]) (st' := []) ((hp 16).trans rfl) rfl rfl (Nat.le_of_ble_eq_true rfl) (Nat.le_of_ble_eq_true rfl) (am_R.post H (fun v g1 hq => ?_))
    obtain ⟨rfl, hw, H⟩ := hq
    change am_R _ _ _ _ _ [] _ _
    refine am_R.next ((hp 19).trans rfl) rfl ?_
    refine am_R.next (lv' := [some (.inr (.inr ((43 : Nat) : Int))), some (.inl x1), some (.inl x2), some (.inl x3), some (.inl 0), none, none]) ((hp 20).trans rfl) rfl ?_
    exact H
theorem w_Tally_rowsOf_22 {scr : Nat × (Nat → Int)} {d : Nat} {h : am_H} {Q : Option am_V → am_H → Prop} {x1 x2 x3 x4 : Int} (hs : am_sc scr) (hw : wf h) (H : (¬ (x4 < 180) → (am_R (am_prog scr) d f_Tally_endBeat 0 [some (.inr (.inr ((43 : Nat) : Int))), none] [] h (fun v g1 => v = none ∧ wf g1 ∧ (∀ y2 : Int, y2 = am_w (x3 + 1) → (am_R (am_prog scr) (d + 1) f_Tally_rowsOf 6 [some (.inr (.inr ((43 : Nat) : Int))), some (.inl x1), some (.inl x2), some (.inl y2), none, none, none] [] g1 Q))))) ∧ (x4 < 180 → (am_inA h (h.2.2.2 43 1) 2 x4 ∧ (((h.2.2.2 ((h.2.2.2 43 1).toNat) x4.toNat) = 0 → (∀ y4 : Int, y4 = am_w (x4 + 1) → (am_R (am_prog scr) (d + 1) f_Tally_rowsOf 22 [some (.inr (.inr ((43 : Nat) : Int))), some (.inl x1), some (.inl x2), some (.inl x3), some (.inl y4), none, none] [] h Q))) ∧ (¬ ((h.2.2.2 ((h.2.2.2 43 1).toNat) x4.toNat) = 0) → (am_R (am_prog scr) d f_Graph_goesOn 0 [some (.inr (.inr ((30 : Nat) : Int))), some (.inl x4)] [] h (fun v g5 => ∃ r6 : Int, v = some (.inl r6) ∧ wf g5 ∧ ((r6 = 0 → (∀ y7 : Int, y7 = am_w (x4 + 1) → (am_R (am_prog scr) (d + 1) f_Tally_rowsOf 22 [some (.inr (.inr ((43 : Nat) : Int))), some (.inl x1), some (.inl x2), some (.inl x3), some (.inl y7), none, none] [] g5 Q))) ∧ (¬ (r6 = 0) → (am_R (am_prog scr) (d + 1) f_Tally_rowsOf 57 [some (.inr (.inr ((43 : Nat) : Int))), some (.inl x1), some (.inl x2), some (.inl x3), some (.inl x4), some (.inl 0), none] [] g5 Q)))))))))) : am_R (am_prog scr) (d + 1) f_Tally_rowsOf 22 [some (.inr (.inr ((43 : Nat) : Int))), some (.inl x1), some (.inl x2), some (.inl x3), some (.inl x4), none, none] [] h Q := by
  have hp : ∀ k, (am_prog scr).1 f_Tally_rowsOf k = c_Tally_rowsOf k := fun _ => rfl
  refine am_R.next ((hp 22).trans rfl) rfl ?_
  refine am_R.next ((hp 24).trans rfl) rfl ?_
  refine r_ic ((hp 27).trans rfl) (fun c10 => ?_) (fun c10 => ?_)
  · have H := H.1 c10
    refine am_R.next ((hp 107).trans rfl) rfl ?_
    refine r_cv (bs := []) (st' := []) ((hp 108).trans rfl) (hw.o (i := 43) (by decide) rfl) rfl rfl (Nat.le_of_ble_eq_true rfl) (Nat.le_of_ble_eq_true rfl) (am_R.post H (fun v g1 hq => ?_))
    obtain ⟨rfl, hw, H⟩ := hq
    change am_R _ _ _ _ _ [] _ _
    obtain ⟨y2, ey2⟩ : ∃ z : Int, z = am_w (x3 + 1) := ⟨_, rfl⟩
    have H := H y2 ey2
    refine am_R.next (lv' := [some (.inr (.inr ((43 : Nat) : Int))), some (.inl x1), some (.inl x2), some (.inl y2), some (.inl x4), none, none]) (st' := []) (h' := g1) (pc' := 114) ((hp 111).trans rfl) (by rw [ey2]; rfl) ?_
    refine am_R.next ((hp 114).trans rfl) rfl ?_
    exact r_le hs in_271 (le_k (le_k (le_k (le_k (le_d (le_k (le_k le_n))))))) H
  · have H := H.2 (Decidable.not_not.mp c10)
    refine am_R.next ((hp 30).trans rfl) rfl ?_
    refine r_getR ((hp 31).trans rfl) (hw.o (i := 43) (by decide) rfl) rfl ?_
    refine am_R.next ((hp 34).trans rfl) rfl ?_
    obtain ⟨c3, H⟩ := H
    refine r_lald ((hp 36).trans rfl) c3 ?_
    refine am_R.next ((hp 37).trans rfl) rfl ?_
    refine am_R.next ((hp 38).trans rfl) rfl ?_
    refine r_if ((hp 39).trans rfl) (fun c9 => ?_) (fun c9 => ?_)
    · have H := H.1 (lc_eqt c9)
      obtain ⟨y4, ey4⟩ : ∃ z : Int, z = am_w (x4 + 1) := ⟨_, rfl⟩
      have H := H y4 ey4
      refine am_R.next (lv' := [some (.inr (.inr ((43 : Nat) : Int))), some (.inl x1), some (.inl x2), some (.inl x3), some (.inl y4), none, none]) (st' := []) (h' := h) (pc' := 104) ((hp 101).trans rfl) (by rw [ey4]; rfl) ?_
      refine am_R.next ((hp 104).trans rfl) rfl ?_
      exact H
    · have H := H.2 (lc_eqf c9)
      refine am_R.next ((hp 42).trans rfl) rfl ?_
      refine r_getR ((hp 43).trans rfl) (hw.o (i := 43) (by decide) rfl) (hw.r wr_43_0) ?_
      refine am_R.next ((hp 46).trans rfl) rfl ?_
      refine r_cv (bs := [.inl x4]) (st' := []) ((hp 48).trans rfl) (hw.o (i := 30) (by decide) rfl) rfl rfl (Nat.le_of_ble_eq_true rfl) (Nat.le_of_ble_eq_true rfl) (am_R.post H (fun v g5 hq => ?_))
      obtain ⟨r6, rfl, hw, H⟩ := hq
      change am_R _ _ _ _ _ [.inl r6] _ _
      refine r_if ((hp 51).trans rfl) (fun c8 => ?_) (fun c8 => ?_)
      · have H := H.1 c8
        obtain ⟨y7, ey7⟩ : ∃ z : Int, z = am_w (x4 + 1) := ⟨_, rfl⟩
        have H := H y7 ey7
        refine am_R.next (lv' := [some (.inr (.inr ((43 : Nat) : Int))), some (.inl x1), some (.inl x2), some (.inl x3), some (.inl y7), none, none]) (st' := []) (h' := g5) (pc' := 104) ((hp 101).trans rfl) (by rw [ey7]; rfl) ?_
        refine am_R.next ((hp 104).trans rfl) rfl ?_
        exact H
      · have H := H.2 c8
        refine am_R.next ((hp 54).trans rfl) rfl ?_
        refine am_R.next (lv' := [some (.inr (.inr ((43 : Nat) : Int))), some (.inl x1), some (.inl x2), some (.inl x3), some (.inl x4), some (.inl 0), none]) ((hp 55).trans rfl) rfl ?_
        exact H
theorem w_Tally_rowsOf_57 {scr : Nat × (Nat → Int)} {d : Nat} {h : am_H} {Q : Option am_V → am_H → Prop} {x1 x2 x3 x4 x5 : Int} (hs : am_sc scr) (hw : wf h) (H : am_R (am_prog scr) d f_Graph_sleepers 0 [some (.inr (.inr ((30 : Nat) : Int)))] [] h (fun v g1 => ∃ r2 : Int, v = some (.inl r2) ∧ wf g1 ∧ ((r2 < x5 → (∀ y3 : Int, y3 = am_w (x4 + 1) → (am_R (am_prog scr) (d + 1) f_Tally_rowsOf 22 [some (.inr (.inr ((43 : Nat) : Int))), some (.inl x1), some (.inl x2), some (.inl x3), some (.inl y3), none, none] [] g1 Q))) ∧ (¬ (r2 < x5) → (am_R (am_prog scr) d f_Graph_after 0 [some (.inr (.inr ((30 : Nat) : Int))), some (.inl x4), some (.inl x5), none] [] g1 (fun v g4 => ∃ r5 : Int, v = some (.inl r5) ∧ wf g4 ∧ (am_inA g4 (g1.2.2.2 43 2) 2 r5 ∧ (am_inA g4 (g4.2.2.2 43 1) 2 x4 ∧ ((am_inA g4 (g1.2.2.2 43 2) 2 r5) ∧ ((((g1.2.2.2 43 2).toNat) ∉ wr_o) ∧ (∀ h10 : am_H, h10 = am_put g4 ((g1.2.2.2 43 2).toNat) r5.toNat (am_W ((g4.2.2.2 ((g1.2.2.2 43 2).toNat) r5.toNat) + (g4.2.2.2 ((g4.2.2.2 43 1).toNat) x4.toNat))) → (∀ y11 : Int, y11 = am_w (x5 + 1) → (am_R (am_prog scr) (d + 1) f_Tally_rowsOf 57 [some (.inr (.inr ((43 : Nat) : Int))), some (.inl x1), some (.inl x2), some (.inl x3), some (.inl x4), some (.inl y11), none] [] h10 Q))))))))))))) : am_R (am_prog scr) (d + 1) f_Tally_rowsOf 57 [some (.inr (.inr ((43 : Nat) : Int))), some (.inl x1), some (.inl x2), some (.inl x3), some (.inl x4), some (.inl x5), none] [] h Q := by
  have hp : ∀ k, (am_prog scr).1 f_Tally_rowsOf k = c_Tally_rowsOf k := fun _ => rfl
  refine am_R.next ((hp 57).trans rfl) rfl ?_
  refine am_R.next ((hp 59).trans rfl) rfl ?_
  refine r_getR ((hp 60).trans rfl) (hw.o (i := 43) (by decide) rfl) (hw.r wr_43_0) ?_
  refine r_cv (bs := []) (st' := [.inl x5]) ((hp 63).trans rfl) (hw.o (i := 30) (by decide) rfl) rfl rfl (Nat.le_of_ble_eq_true rfl) (Nat.le_of_ble_eq_true rfl) (am_R.post H (fun v g1 hq => ?_))
  obtain ⟨r2, rfl, hw, H⟩ := hq
  change am_R _ _ _ _ _ [.inl r2, .inl x5] _ _
  refine r_ic ((hp 66).trans rfl) (fun c12 => ?_) (fun c12 => ?_)
  · have H := H.1 c12
    obtain ⟨y3, ey3⟩ : ∃ z : Int, z = am_w (x4 + 1) := ⟨_, rfl⟩
    have H := H y3 ey3
    refine am_R.next (lv' := [some (.inr (.inr ((43 : Nat) : Int))), some (.inl x1), some (.inl x2), some (.inl x3), some (.inl y3), some (.inl x5), none]) (st' := []) (h' := g1) (pc' := 104) ((hp 101).trans rfl) (by rw [ey3]; rfl) ?_
    refine am_R.next ((hp 104).trans rfl) rfl ?_
    exact r_le hs in_271 (le_k (le_k (le_k (le_k (le_k (le_d (le_k le_n))))))) H
  · have H := H.2 c12
    refine am_R.next ((hp 69).trans rfl) rfl ?_
    refine r_getR ((hp 70).trans rfl) (hw.o (i := 43) (by decide) rfl) rfl ?_
    refine am_R.next ((hp 73).trans rfl) rfl ?_
    refine r_getR ((hp 74).trans rfl) (hw.o (i := 43) (by decide) rfl) (hw.r wr_43_0) ?_
    refine am_R.next ((hp 77).trans rfl) rfl ?_
    refine am_R.next ((hp 79).trans rfl) rfl ?_
    refine r_cv (bs := [.inl x4, .inl x5]) (st' := [.inr (.inr (g1.2.2.2 43 2))]) ((hp 81).trans rfl) (hw.o (i := 30) (by decide) rfl) rfl rfl (Nat.le_of_ble_eq_true rfl) (Nat.le_of_ble_eq_true rfl) (am_R.post H (fun v g4 hq => ?_))
    obtain ⟨r5, rfl, hw, H⟩ := hq
    change am_R _ _ _ _ _ [.inl r5, .inr (.inr (g1.2.2.2 43 2))] _ _
    refine am_R.next ((hp 84).trans rfl) rfl ?_
    obtain ⟨c6, H⟩ := H
    refine r_lald ((hp 85).trans rfl) c6 ?_
    refine am_R.next ((hp 86).trans rfl) rfl ?_
    refine r_getR ((hp 87).trans rfl) (hw.o (i := 43) (by decide) rfl) rfl ?_
    refine am_R.next ((hp 90).trans rfl) rfl ?_
    obtain ⟨c7, H⟩ := H
    refine r_lald ((hp 92).trans rfl) c7 ?_
    refine am_R.next ((hp 93).trans rfl) rfl ?_
    obtain ⟨c8, H⟩ := H
    obtain ⟨c9, H⟩ := H
    obtain ⟨h10, eh10⟩ : ∃ z : am_H, z = am_put g4 ((g1.2.2.2 43 2).toNat) r5.toNat (am_W ((g4.2.2.2 ((g1.2.2.2 43 2).toNat) r5.toNat) + (g4.2.2.2 ((g4.2.2.2 43 1).toNat) x4.toNat))) := ⟨_, rfl⟩
    have H := H h10 eh10
    refine r_last ((hp 94).trans rfl) c8 ?_
    have hw : wf h10 := by rw [eh10]; exact hw.pa c9
    change am_R _ _ _ _ _ _ (am_put g4 ((g1.2.2.2 43 2).toNat) r5.toNat (am_W ((g4.2.2.2 ((g1.2.2.2 43 2).toNat) r5.toNat) + (g4.2.2.2 ((g4.2.2.2 43 1).toNat) x4.toNat)))) _
    rw [← eh10]
    obtain ⟨y11, ey11⟩ : ∃ z : Int, z = am_w (x5 + 1) := ⟨_, rfl⟩
    have H := H y11 ey11
    refine am_R.next (lv' := [some (.inr (.inr ((43 : Nat) : Int))), some (.inl x1), some (.inl x2), some (.inl x3), some (.inl x4), some (.inl y11), none]) (st' := []) (h' := h10) (pc' := 98) ((hp 95).trans rfl) (by rw [ey11]; rfl) ?_
    refine am_R.next ((hp 98).trans rfl) rfl ?_
    exact H
theorem w_Tally_rowsOf_122 {scr : Nat × (Nat → Int)} {d : Nat} {h : am_H} {Q : Option am_V → am_H → Prop} {x1 x2 x3 x5 : Int} (hs : am_sc scr) (hw : wf h) (H : (¬ (x5 < 185) → (Q (some (.inr (.inl x3))) h)) ∧ (x5 < 185 → (am_R (am_prog scr) d f_Graph_isEnd 0 [some (.inr (.inr ((30 : Nat) : Int))), some (.inl x5)] [] h (fun v g1 => ∃ r2 : Int, v = some (.inl r2) ∧ wf g1 ∧ ((r2 = 0 → (am_R (am_prog scr) d f_Graph_isStill 0 [some (.inr (.inr ((30 : Nat) : Int))), some (.inl x5)] [] g1 (fun v g3 => ∃ r4 : Int, v = some (.inl r4) ∧ wf g3 ∧ ((r4 = 0 → ((¬ ((2 : Int) = x1) → (∀ y5 : Int, y5 = am_w (x5 + 1) → (am_R (am_prog scr) (d + 1) f_Tally_rowsOf 122 [some (.inr (.inr ((43 : Nat) : Int))), some (.inl x1), some (.inl x2), some (.inr (.inl x3)), none, some (.inl y5), none] [] g3 Q))) ∧ ((2 : Int) = x1 → (am_inA g3 (g3.2.2.2 43 1) 2 x5 ∧ (∀ y7 : Int, y7 = am_W (x3 + (g3.2.2.2 ((g3.2.2.2 43 1).toNat) x5.toNat)) → (∀ y8 : Int, y8 = am_w (x5 + 1) → (am_R (am_prog scr) (d + 1) f_Tally_rowsOf 122 [some (.inr (.inr ((43 : Nat) : Int))), some (.inl x1), some (.inl x2), some (.inr (.inl y7)), none, some (.inl y8), none] [] g3 Q))))))) ∧ (¬ (r4 = 0) → ((¬ ((1 : Int) = x1) → (∀ y10 : Int, y10 = am_w (x5 + 1) → (am_R (am_prog scr) (d + 1) f_Tally_rowsOf 122 [some (.inr (.inr ((43 : Nat) : Int))), some (.inl x1), some (.inl x2), some (.inr (.inl x3)), none, some (.inl y10), none] [] g3 Q))) ∧ ((1 : Int) = x1 → (am_inA g3 (g3.2.2.2 43 1) 2 x5 ∧ (∀ y12 : Int, y12 = am_W (x3 + (g3.2.2.2 ((g3.2.2.2 43 1).toNat) x5.toNat)) → (∀ y13 : Int, y13 = am_w (x5 + 1) → (am_R (am_prog scr) (d + 1) f_Tally_rowsOf 122 [some (.inr (.inr ((43 : Nat) : Int))), some (.inl x1), some (.inl x2), some (.inr (.inl y12)), none, some (.inl y13), none] [] g3 Q))))))))))) ∧ (¬ (r2 = 0) → ((¬ ((0 : Int) = x1) → (∀ y16 : Int, y16 = am_w (x5 + 1) → (am_R (am_prog scr) (d + 1) f_Tally_rowsOf 122 [some (.inr (.inr ((43 : Nat) : Int))), some (.inl x1), some (.inl x2), some (.inr (.inl x3)), none, some (.inl y16), none] [] g1 Q))) ∧ ((0 : Int) = x1 → (am_inA g1 (g1.2.2.2 43 1) 2 x5 ∧ (∀ y18 : Int, y18 = am_W (x3 + (g1.2.2.2 ((g1.2.2.2 43 1).toNat) x5.toNat)) → (∀ y19 : Int, y19 = am_w (x5 + 1) → (am_R (am_prog scr) (d + 1) f_Tally_rowsOf 122 [some (.inr (.inr ((43 : Nat) : Int))), some (.inl x1), some (.inl x2), some (.inr (.inl y18)), none, some (.inl y19), none] [] g1 Q)))))))))))) : am_R (am_prog scr) (d + 1) f_Tally_rowsOf 122 [some (.inr (.inr ((43 : Nat) : Int))), some (.inl x1), some (.inl x2), some (.inr (.inl x3)), none, some (.inl x5), none] [] h Q := by
  have hp : ∀ k, (am_prog scr).1 f_Tally_rowsOf k = c_Tally_rowsOf k := fun _ => rfl
  refine am_R.next ((hp 122).trans rfl) rfl ?_
  refine am_R.next ((hp 124).trans rfl) rfl ?_
  refine r_ic ((hp 127).trans rfl) (fun c22 => ?_) (fun c22 => ?_)
  · have H := H.1 c22
    refine am_R.next ((hp 187).trans rfl) rfl ?_
    exact am_R.ret ((hp 188).trans rfl) rfl H
  · have H := H.2 (Decidable.not_not.mp c22)
    refine am_R.next ((hp 130).trans rfl) rfl ?_
    refine r_getR ((hp 131).trans rfl) (hw.o (i := 43) (by decide) rfl) (hw.r wr_43_0) ?_
    refine am_R.next ((hp 134).trans rfl) rfl ?_
    refine r_cv (bs := [.inl x5]) (st' := []) ((hp 136).trans rfl) (hw.o (i := 30) (by decide) rfl) rfl rfl (Nat.le_of_ble_eq_true rfl) (Nat.le_of_ble_eq_true rfl) (am_R.post H (fun v g1 hq => ?_))
    obtain ⟨r2, rfl, hw, H⟩ := hq
    change am_R _ _ _ _ _ [.inl r2] _ _
    refine r_if ((hp 139).trans rfl) (fun c21 => ?_) (fun c21 => ?_)
    · have H := H.1 c21
      refine am_R.next ((hp 146).trans rfl) rfl ?_
      refine r_getR ((hp 147).trans rfl) (hw.o (i := 43) (by decide) rfl) (hw.r wr_43_0) ?_
      refine am_R.next ((hp 150).trans rfl) rfl ?_
      refine r_cv (bs := [.inl x5]) (st' := []) ((hp 152).trans rfl) (hw.o (i := 30) (by decide) rfl) rfl rfl (Nat.le_of_ble_eq_true rfl) (Nat.le_of_ble_eq_true rfl) (am_R.post H (fun v g3 hq => ?_))
      obtain ⟨r4, rfl, hw, H⟩ := hq
      change am_R _ _ _ _ _ [.inl r4] _ _
      refine r_if ((hp 155).trans rfl) (fun c15 => ?_) (fun c15 => ?_)
      · have H := H.1 c15
        refine am_R.next ((hp 162).trans rfl) rfl ?_
        refine am_R.next (lv' := [some (.inr (.inr ((43 : Nat) : Int))), some (.inl x1), some (.inl x2), some (.inr (.inl x3)), none, some (.inl x5), some (.inl 2)]) ((hp 163).trans rfl) rfl ?_
        refine am_R.next ((hp 165).trans rfl) rfl ?_
        refine am_R.next ((hp 167).trans rfl) rfl ?_
        refine r_ic ((hp 168).trans rfl) (fun c9 => ?_) (fun c9 => ?_)
        · have H := H.1 c9
          obtain ⟨y5, ey5⟩ : ∃ z : Int, z = am_w (x5 + 1) := ⟨_, rfl⟩
          have H := H y5 ey5
          refine am_R.next (lv' := [some (.inr (.inr ((43 : Nat) : Int))), some (.inl x1), some (.inl x2), some (.inr (.inl x3)), none, some (.inl y5), some (.inl 2)]) (st' := []) (h' := g3) (pc' := 184) ((hp 181).trans rfl) (by rw [ey5]; rfl) ?_
          refine am_R.next ((hp 184).trans rfl) rfl ?_
          exact r_le hs in_271 (le_k (le_k (le_k (le_k (le_k (le_k (le_d le_n))))))) H
        · have H := H.2 (Decidable.not_not.mp c9)
          refine am_R.next ((hp 171).trans rfl) rfl ?_
          refine am_R.next ((hp 172).trans rfl) rfl ?_
          refine r_getR ((hp 173).trans rfl) (hw.o (i := 43) (by decide) rfl) rfl ?_
          refine am_R.next ((hp 176).trans rfl) rfl ?_
          obtain ⟨c6, H⟩ := H
          refine r_lald ((hp 178).trans rfl) c6 ?_
          refine am_R.next ((hp 179).trans rfl) rfl ?_
          obtain ⟨y7, ey7⟩ : ∃ z : Int, z = am_W (x3 + (g3.2.2.2 ((g3.2.2.2 43 1).toNat) x5.toNat)) := ⟨_, rfl⟩
          have H := H y7 ey7
          refine am_R.next (lv' := [some (.inr (.inr ((43 : Nat) : Int))), some (.inl x1), some (.inl x2), some (.inr (.inl y7)), none, some (.inl x5), some (.inl 2)]) (st' := []) (h' := g3) (pc' := 181) ((hp 180).trans rfl) (by rw [ey7]; rfl) ?_
          obtain ⟨y8, ey8⟩ : ∃ z : Int, z = am_w (x5 + 1) := ⟨_, rfl⟩
          have H := H y8 ey8
          refine am_R.next (lv' := [some (.inr (.inr ((43 : Nat) : Int))), some (.inl x1), some (.inl x2), some (.inr (.inl y7)), none, some (.inl y8), some (.inl 2)]) (st' := []) (h' := g3) (pc' := 184) ((hp 181).trans rfl) (by rw [ey8]; rfl) ?_
          refine am_R.next ((hp 184).trans rfl) rfl ?_
          exact r_le hs in_271 (le_k (le_k (le_k (le_k (le_k (le_k (le_d le_n))))))) H
      · have H := H.2 c15
        refine am_R.next ((hp 158).trans rfl) rfl ?_
        refine am_R.next ((hp 159).trans rfl) rfl ?_
        refine am_R.next (lv' := [some (.inr (.inr ((43 : Nat) : Int))), some (.inl x1), some (.inl x2), some (.inr (.inl x3)), none, some (.inl x5), some (.inl 1)]) ((hp 163).trans rfl) rfl ?_
        refine am_R.next ((hp 165).trans rfl) rfl ?_
        refine am_R.next ((hp 167).trans rfl) rfl ?_
        refine r_ic ((hp 168).trans rfl) (fun c14 => ?_) (fun c14 => ?_)
        · have H := H.1 c14
          obtain ⟨y10, ey10⟩ : ∃ z : Int, z = am_w (x5 + 1) := ⟨_, rfl⟩
          have H := H y10 ey10
          refine am_R.next (lv' := [some (.inr (.inr ((43 : Nat) : Int))), some (.inl x1), some (.inl x2), some (.inr (.inl x3)), none, some (.inl y10), some (.inl 1)]) (st' := []) (h' := g3) (pc' := 184) ((hp 181).trans rfl) (by rw [ey10]; rfl) ?_
          refine am_R.next ((hp 184).trans rfl) rfl ?_
          exact r_le hs in_271 (le_k (le_k (le_k (le_k (le_k (le_k (le_d le_n))))))) H
        · have H := H.2 (Decidable.not_not.mp c14)
          refine am_R.next ((hp 171).trans rfl) rfl ?_
          refine am_R.next ((hp 172).trans rfl) rfl ?_
          refine r_getR ((hp 173).trans rfl) (hw.o (i := 43) (by decide) rfl) rfl ?_
          refine am_R.next ((hp 176).trans rfl) rfl ?_
          obtain ⟨c11, H⟩ := H
          refine r_lald ((hp 178).trans rfl) c11 ?_
          refine am_R.next ((hp 179).trans rfl) rfl ?_
          obtain ⟨y12, ey12⟩ : ∃ z : Int, z = am_W (x3 + (g3.2.2.2 ((g3.2.2.2 43 1).toNat) x5.toNat)) := ⟨_, rfl⟩
          have H := H y12 ey12
          refine am_R.next (lv' := [some (.inr (.inr ((43 : Nat) : Int))), some (.inl x1), some (.inl x2), some (.inr (.inl y12)), none, some (.inl x5), some (.inl 1)]) (st' := []) (h' := g3) (pc' := 181) ((hp 180).trans rfl) (by rw [ey12]; rfl) ?_
          obtain ⟨y13, ey13⟩ : ∃ z : Int, z = am_w (x5 + 1) := ⟨_, rfl⟩
          have H := H y13 ey13
          refine am_R.next (lv' := [some (.inr (.inr ((43 : Nat) : Int))), some (.inl x1), some (.inl x2), some (.inr (.inl y12)), none, some (.inl y13), some (.inl 1)]) (st' := []) (h' := g3) (pc' := 184) ((hp 181).trans rfl) (by rw [ey13]; rfl) ?_
          refine am_R.next ((hp 184).trans rfl) rfl ?_
          exact r_le hs in_271 (le_k (le_k (le_k (le_k (le_k (le_k (le_d le_n))))))) H
    · have H := H.2 c21
      refine am_R.next ((hp 142).trans rfl) rfl ?_
      refine am_R.next ((hp 143).trans rfl) rfl ?_
      refine am_R.next (lv' := [some (.inr (.inr ((43 : Nat) : Int))), some (.inl x1), some (.inl x2), some (.inr (.inl x3)), none, some (.inl x5), some (.inl 0)]) ((hp 163).trans rfl) rfl ?_
      refine am_R.next ((hp 165).trans rfl) rfl ?_
      refine am_R.next ((hp 167).trans rfl) rfl ?_
      refine r_ic ((hp 168).trans rfl) (fun c20 => ?_) (fun c20 => ?_)
      · have H := H.1 c20
        obtain ⟨y16, ey16⟩ : ∃ z : Int, z = am_w (x5 + 1) := ⟨_, rfl⟩
        have H := H y16 ey16
        refine am_R.next (lv' := [some (.inr (.inr ((43 : Nat) : Int))), some (.inl x1), some (.inl x2), some (.inr (.inl x3)), none, some (.inl y16), some (.inl 0)]) (st' := []) (h' := g1) (pc' := 184) ((hp 181).trans rfl) (by rw [ey16]; rfl) ?_
        refine am_R.next ((hp 184).trans rfl) rfl ?_
        exact r_le hs in_271 (le_k (le_k (le_k (le_k (le_k (le_k (le_d le_n))))))) H
      · have H := H.2 (Decidable.not_not.mp c20)
        refine am_R.next ((hp 171).trans rfl) rfl ?_
        refine am_R.next ((hp 172).trans rfl) rfl ?_
        refine r_getR ((hp 173).trans rfl) (hw.o (i := 43) (by decide) rfl) rfl ?_
        refine am_R.next ((hp 176).trans rfl) rfl ?_
        obtain ⟨c17, H⟩ := H
        refine r_lald ((hp 178).trans rfl) c17 ?_
        refine am_R.next ((hp 179).trans rfl) rfl ?_
        obtain ⟨y18, ey18⟩ : ∃ z : Int, z = am_W (x3 + (g1.2.2.2 ((g1.2.2.2 43 1).toNat) x5.toNat)) := ⟨_, rfl⟩
        have H := H y18 ey18
        refine am_R.next (lv' := [some (.inr (.inr ((43 : Nat) : Int))), some (.inl x1), some (.inl x2), some (.inr (.inl y18)), none, some (.inl x5), some (.inl 0)]) (st' := []) (h' := g1) (pc' := 181) ((hp 180).trans rfl) (by rw [ey18]; rfl) ?_
        obtain ⟨y19, ey19⟩ : ∃ z : Int, z = am_w (x5 + 1) := ⟨_, rfl⟩
        have H := H y19 ey19
        refine am_R.next (lv' := [some (.inr (.inr ((43 : Nat) : Int))), some (.inl x1), some (.inl x2), some (.inr (.inl y18)), none, some (.inl y19), some (.inl 0)]) (st' := []) (h' := g1) (pc' := 184) ((hp 181).trans rfl) (by rw [ey19]; rfl) ?_
        refine am_R.next ((hp 184).trans rfl) rfl ?_
        exact r_le hs in_271 (le_k (le_k (le_k (le_k (le_k (le_k (le_d le_n))))))) H
theorem w_Tally_drawLots_0 {scr : Nat × (Nat → Int)} {d : Nat} {h : am_H} {Q : Option am_V → am_H → Prop} {x1 : Int} (hs : am_sc scr) (hw : wf h) (H : am_R (am_prog scr) d f_Tally_begin 0 [some (.inr (.inr ((43 : Nat) : Int)))] [] h (fun v g1 => v = none ∧ wf g1 ∧ (am_R (am_prog scr) (d + 1) f_Tally_drawLots 6 [some (.inr (.inr ((43 : Nat) : Int))), some (.inl x1), some (.inl 0), none] [] g1 Q))) : am_R (am_prog scr) (d + 1) f_Tally_drawLots 0 [some (.inr (.inr ((43 : Nat) : Int))), some (.inl x1), none, none] [] h Q := by
  have hp : ∀ k, (am_prog scr).1 f_Tally_drawLots k = c_Tally_drawLots k := fun _ => rfl
  refine am_R.next ((hp 0).trans rfl) rfl ?_
  refine r_cv (bs := []) (st' := []) ((hp 1).trans rfl) (hw.o (i := 43) (by decide) rfl) rfl rfl (Nat.le_of_ble_eq_true rfl) (Nat.le_of_ble_eq_true rfl) (am_R.post H (fun v g1 hq => ?_))
  obtain ⟨rfl, hw, H⟩ := hq
  change am_R _ _ _ _ _ [] _ _
  refine am_R.next ((hp 4).trans rfl) rfl ?_
  refine am_R.next (lv' := [some (.inr (.inr ((43 : Nat) : Int))), some (.inl x1), some (.inl 0), none]) ((hp 5).trans rfl) rfl ?_
  exact H
theorem w_Tally_drawLots_6 {scr : Nat × (Nat → Int)} {d : Nat} {h : am_H} {Q : Option am_V → am_H → Prop} {x1 x2 : Int} (hs : am_sc scr) (hw : wf h) (H : (¬ (x2 < x1) → (Q none h)) ∧ (x2 < x1 → (am_R (am_prog scr) d f_jA_fill 0 [some (.inr (.inr (h.2.2.2 43 2))), some (.inr (.inl 0)), none, none, none] [] h (fun v g1 => v = none ∧ wf g1 ∧ (am_R (am_prog scr) (d + 1) f_Tally_drawLots 21 [some (.inr (.inr ((43 : Nat) : Int))), some (.inl x1), some (.inl x2), some (.inl 0)] [] g1 Q))))) : am_R (am_prog scr) (d + 1) f_Tally_drawLots 6 [some (.inr (.inr ((43 : Nat) : Int))), some (.inl x1), some (.inl x2), none] [] h Q := by
  have hp : ∀ k, (am_prog scr).1 f_Tally_drawLots k = c_Tally_drawLots k := fun _ => rfl
  refine am_R.next ((hp 6).trans rfl) rfl ?_
  refine am_R.next ((hp 7).trans rfl) rfl ?_
  refine r_ic ((hp 8).trans rfl) (fun c2 => ?_) (fun c2 => ?_)
  · have H := H.1 c2
    exact am_R.ret ((hp 60).trans rfl) rfl H
  · have H := H.2 (Decidable.not_not.mp c2)
    refine am_R.next ((hp 11).trans rfl) rfl ?_
    refine r_getR ((hp 12).trans rfl) (hw.o (i := 43) (by decide) rfl) rfl ?_
    refine am_R.next ((hp 15).trans rfl) rfl ?_
    refine r_cs (as := [.inr (.inr (h.2.2.2 43 2)), .inr (.inl 0)]) (st' := []) ((hp 16).trans rfl) rfl rfl (Nat.le_of_ble_eq_true rfl) (Nat.le_of_ble_eq_true rfl) (am_R.post H (fun v g1 hq => ?_))
    obtain ⟨rfl, hw, H⟩ := hq
    change am_R _ _ _ _ _ [] _ _
    refine am_R.next ((hp 19).trans rfl) rfl ?_
    refine am_R.next (lv' := [some (.inr (.inr ((43 : Nat) : Int))), some (.inl x1), some (.inl x2), some (.inl 0)]) ((hp 20).trans rfl) rfl ?_
    exact H
theorem w_Tally_drawLots_21 {scr : Nat × (Nat → Int)} {d : Nat} {h : am_H} {Q : Option am_V → am_H → Prop} {x1 x2 x3 : Int} (hs : am_sc scr) (hw : wf h) (H : (¬ (x3 < 185) → (am_R (am_prog scr) d f_Tally_endBeat 0 [some (.inr (.inr ((43 : Nat) : Int))), none] [] h (fun v g1 => v = none ∧ wf g1 ∧ (∀ y2 : Int, y2 = am_w (x2 + 1) → (am_R (am_prog scr) (d + 1) f_Tally_drawLots 6 [some (.inr (.inr ((43 : Nat) : Int))), some (.inl x1), some (.inl y2), none] [] g1 Q))))) ∧ (x3 < 185 → (am_inA h (h.2.2.2 43 1) 2 x3 ∧ (((h.2.2.2 ((h.2.2.2 43 1).toNat) x3.toNat) = 0 → (∀ y4 : Int, y4 = am_w (x3 + 1) → (am_R (am_prog scr) (d + 1) f_Tally_drawLots 21 [some (.inr (.inr ((43 : Nat) : Int))), some (.inl x1), some (.inl x2), some (.inl y4)] [] h Q))) ∧ (¬ ((h.2.2.2 ((h.2.2.2 43 1).toNat) x3.toNat) = 0) → (am_R (am_prog scr) d f_Tally_drawLot 0 [some (.inr (.inr ((43 : Nat) : Int))), some (.inl x3), none] [] h (fun v g5 => v = none ∧ wf g5 ∧ (∀ y6 : Int, y6 = am_w (x3 + 1) → (am_R (am_prog scr) (d + 1) f_Tally_drawLots 21 [some (.inr (.inr ((43 : Nat) : Int))), some (.inl x1), some (.inl x2), some (.inl y6)] [] g5 Q))))))))) : am_R (am_prog scr) (d + 1) f_Tally_drawLots 21 [some (.inr (.inr ((43 : Nat) : Int))), some (.inl x1), some (.inl x2), some (.inl x3)] [] h Q := by
  have hp : ∀ k, (am_prog scr).1 f_Tally_drawLots k = c_Tally_drawLots k := fun _ => rfl
  refine am_R.next ((hp 21).trans rfl) rfl ?_
  refine am_R.next ((hp 22).trans rfl) rfl ?_
  refine r_ic ((hp 25).trans rfl) (fun c8 => ?_) (fun c8 => ?_)
  · have H := H.1 c8
    refine am_R.next ((hp 50).trans rfl) rfl ?_
    refine r_cv (bs := []) (st' := []) ((hp 51).trans rfl) (hw.o (i := 43) (by decide) rfl) rfl rfl (Nat.le_of_ble_eq_true rfl) (Nat.le_of_ble_eq_true rfl) (am_R.post H (fun v g1 hq => ?_))
    obtain ⟨rfl, hw, H⟩ := hq
    change am_R _ _ _ _ _ [] _ _
    obtain ⟨y2, ey2⟩ : ∃ z : Int, z = am_w (x2 + 1) := ⟨_, rfl⟩
    have H := H y2 ey2
    refine am_R.next (lv' := [some (.inr (.inr ((43 : Nat) : Int))), some (.inl x1), some (.inl y2), some (.inl x3)]) (st' := []) (h' := g1) (pc' := 57) ((hp 54).trans rfl) (by rw [ey2]; rfl) ?_
    refine am_R.next ((hp 57).trans rfl) rfl ?_
    exact r_le hs in_272 (le_k (le_k (le_k (le_d le_n)))) H
  · have H := H.2 (Decidable.not_not.mp c8)
    refine am_R.next ((hp 28).trans rfl) rfl ?_
    refine r_getR ((hp 29).trans rfl) (hw.o (i := 43) (by decide) rfl) rfl ?_
    refine am_R.next ((hp 32).trans rfl) rfl ?_
    obtain ⟨c3, H⟩ := H
    refine r_lald ((hp 33).trans rfl) c3 ?_
    refine am_R.next ((hp 34).trans rfl) rfl ?_
    refine am_R.next ((hp 35).trans rfl) rfl ?_
    refine r_if ((hp 36).trans rfl) (fun c7 => ?_) (fun c7 => ?_)
    · have H := H.1 (lc_eqt c7)
      obtain ⟨y4, ey4⟩ : ∃ z : Int, z = am_w (x3 + 1) := ⟨_, rfl⟩
      have H := H y4 ey4
      refine am_R.next (lv' := [some (.inr (.inr ((43 : Nat) : Int))), some (.inl x1), some (.inl x2), some (.inl y4)]) (st' := []) (h' := h) (pc' := 47) ((hp 44).trans rfl) (by rw [ey4]; rfl) ?_
      refine am_R.next ((hp 47).trans rfl) rfl ?_
      exact H
    · have H := H.2 (lc_eqf c7)
      refine am_R.next ((hp 39).trans rfl) rfl ?_
      refine am_R.next ((hp 40).trans rfl) rfl ?_
      refine r_cv (bs := [.inl x3]) (st' := []) ((hp 41).trans rfl) (hw.o (i := 43) (by decide) rfl) rfl rfl (Nat.le_of_ble_eq_true rfl) (Nat.le_of_ble_eq_true rfl) (am_R.post H (fun v g5 hq => ?_))
      obtain ⟨rfl, hw, H⟩ := hq
      change am_R _ _ _ _ _ [] _ _
      obtain ⟨y6, ey6⟩ : ∃ z : Int, z = am_w (x3 + 1) := ⟨_, rfl⟩
      have H := H y6 ey6
      refine am_R.next (lv' := [some (.inr (.inr ((43 : Nat) : Int))), some (.inl x1), some (.inl x2), some (.inl y6)]) (st' := []) (h' := g5) (pc' := 47) ((hp 44).trans rfl) (by rw [ey6]; rfl) ?_
      refine am_R.next ((hp 47).trans rfl) rfl ?_
      exact H
theorem w_Tally_drawLot_0 {scr : Nat × (Nat → Int)} {d : Nat} {h : am_H} {Q : Option am_V → am_H → Prop} {x1 : Int} (hs : am_sc scr) (hw : wf h) (H : am_R (am_prog scr) d f_Graph_goesOn 0 [some (.inr (.inr ((30 : Nat) : Int))), some (.inl x1)] [] h (fun v g1 => ∃ r2 : Int, v = some (.inl r2) ∧ wf g1 ∧ ((¬ (r2 = 0) → (am_R (am_prog scr) (d + 1) f_Tally_drawLot 33 [some (.inr (.inr ((43 : Nat) : Int))), some (.inl x1), some (.inl 1)] [] g1 Q)) ∧ (r2 = 0 → (am_inA g1 (g1.2.2.2 43 2) 2 x1 ∧ (am_inA g1 (g1.2.2.2 43 1) 2 x1 ∧ ((am_inA g1 (g1.2.2.2 43 2) 2 x1) ∧ ((((g1.2.2.2 43 2).toNat) ∉ wr_o) ∧ (∀ h7 : am_H, h7 = am_put g1 ((g1.2.2.2 43 2).toNat) x1.toNat (am_W ((g1.2.2.2 ((g1.2.2.2 43 2).toNat) x1.toNat) + (am_W (10 * (g1.2.2.2 ((g1.2.2.2 43 1).toNat) x1.toNat))))) → (Q none h7)))))))))) : am_R (am_prog scr) (d + 1) f_Tally_drawLot 0 [some (.inr (.inr ((43 : Nat) : Int))), some (.inl x1), none] [] h Q := by
  have hp : ∀ k, (am_prog scr).1 f_Tally_drawLot k = c_Tally_drawLot k := fun _ => rfl
  refine am_R.next ((hp 0).trans rfl) rfl ?_
  refine r_getR ((hp 1).trans rfl) (hw.o (i := 43) (by decide) rfl) (hw.r wr_43_0) ?_
  refine am_R.next ((hp 4).trans rfl) rfl ?_
  refine r_cv (bs := [.inl x1]) (st' := []) ((hp 5).trans rfl) (hw.o (i := 30) (by decide) rfl) rfl rfl (Nat.le_of_ble_eq_true rfl) (Nat.le_of_ble_eq_true rfl) (am_R.post H (fun v g1 hq => ?_))
  obtain ⟨r2, rfl, hw, H⟩ := hq
  change am_R _ _ _ _ _ [.inl r2] _ _
  refine r_if ((hp 8).trans rfl) (fun c8 => ?_) (fun c8 => ?_)
  · have H := H.1 c8
    refine am_R.next ((hp 31).trans rfl) rfl ?_
    refine am_R.next (lv' := [some (.inr (.inr ((43 : Nat) : Int))), some (.inl x1), some (.inl 1)]) ((hp 32).trans rfl) rfl ?_
    exact H
  · have H := H.2 (Decidable.not_not.mp c8)
    refine am_R.next ((hp 11).trans rfl) rfl ?_
    refine r_getR ((hp 12).trans rfl) (hw.o (i := 43) (by decide) rfl) rfl ?_
    refine am_R.next ((hp 15).trans rfl) rfl ?_
    refine am_R.next ((hp 16).trans rfl) rfl ?_
    obtain ⟨c3, H⟩ := H
    refine r_lald ((hp 17).trans rfl) c3 ?_
    refine am_R.next ((hp 18).trans rfl) rfl ?_
    refine am_R.next ((hp 21).trans rfl) rfl ?_
    refine r_getR ((hp 22).trans rfl) (hw.o (i := 43) (by decide) rfl) rfl ?_
    refine am_R.next ((hp 25).trans rfl) rfl ?_
    obtain ⟨c4, H⟩ := H
    refine r_lald ((hp 26).trans rfl) c4 ?_
    refine am_R.next ((hp 27).trans rfl) rfl ?_
    refine am_R.next ((hp 28).trans rfl) rfl ?_
    obtain ⟨c5, H⟩ := H
    obtain ⟨c6, H⟩ := H
    obtain ⟨h7, eh7⟩ : ∃ z : am_H, z = am_put g1 ((g1.2.2.2 43 2).toNat) x1.toNat (am_W ((g1.2.2.2 ((g1.2.2.2 43 2).toNat) x1.toNat) + (am_W (10 * (g1.2.2.2 ((g1.2.2.2 43 1).toNat) x1.toNat))))) := ⟨_, rfl⟩
    have H := H h7 eh7
    refine r_last ((hp 29).trans rfl) c5 ?_
    have hw : wf h7 := by rw [eh7]; exact hw.pa c6
    change am_R _ _ _ _ _ _ (am_put g1 ((g1.2.2.2 43 2).toNat) x1.toNat (am_W ((g1.2.2.2 ((g1.2.2.2 43 2).toNat) x1.toNat) + (am_W (10 * (g1.2.2.2 ((g1.2.2.2 43 1).toNat) x1.toNat)))))) _
    rw [← eh7]
    exact am_R.ret ((hp 30).trans rfl) rfl H
theorem w_Tally_drawLot_33 {scr : Nat × (Nat → Int)} {d : Nat} {h : am_H} {Q : Option am_V → am_H → Prop} {x1 x2 : Int} (hs : am_sc scr) (hw : wf h) (H : am_R (am_prog scr) d f_Graph_sleepers 0 [some (.inr (.inr ((30 : Nat) : Int)))] [] h (fun v g1 => ∃ r2 : Int, v = some (.inl r2) ∧ wf g1 ∧ ((r2 < x2 → (am_R (am_prog scr) d f_Graph_after 0 [some (.inr (.inr ((30 : Nat) : Int))), some (.inl x1), some (.inl 0), none] [] g1 (fun v g3 => ∃ r4 : Int, v = some (.inl r4) ∧ wf g3 ∧ (am_inA g3 (g1.2.2.2 43 2) 2 r4 ∧ (am_R (am_prog scr) d f_Graph_sleepers 0 [some (.inr (.inr ((30 : Nat) : Int)))] [] g3 (fun v g6 => ∃ r7 : Int, v = some (.inl r7) ∧ wf g6 ∧ (am_inA g6 (g6.2.2.2 43 1) 2 x1 ∧ ((am_inA g6 (g1.2.2.2 43 2) 2 r4) ∧ ((((g1.2.2.2 43 2).toNat) ∉ wr_o) ∧ (∀ h11 : am_H, h11 = am_put g6 ((g1.2.2.2 43 2).toNat) r4.toNat (am_W ((g3.2.2.2 ((g1.2.2.2 43 2).toNat) r4.toNat) + (am_W ((am_w (10 - r7)) * (g6.2.2.2 ((g6.2.2.2 43 1).toNat) x1.toNat))))) → (Q none h11))))))))))) ∧ (¬ (r2 < x2) → (am_R (am_prog scr) d f_Graph_after 0 [some (.inr (.inr ((30 : Nat) : Int))), some (.inl x1), some (.inl x2), none] [] g1 (fun v g12 => ∃ r13 : Int, v = some (.inl r13) ∧ wf g12 ∧ (am_inA g12 (g1.2.2.2 43 2) 2 r13 ∧ (am_inA g12 (g12.2.2.2 43 1) 2 x1 ∧ ((am_inA g12 (g1.2.2.2 43 2) 2 r13) ∧ ((((g1.2.2.2 43 2).toNat) ∉ wr_o) ∧ (∀ h18 : am_H, h18 = am_put g12 ((g1.2.2.2 43 2).toNat) r13.toNat (am_W ((g12.2.2.2 ((g1.2.2.2 43 2).toNat) r13.toNat) + (g12.2.2.2 ((g12.2.2.2 43 1).toNat) x1.toNat))) → (∀ y19 : Int, y19 = am_w (x2 + 1) → (am_R (am_prog scr) (d + 1) f_Tally_drawLot 33 [some (.inr (.inr ((43 : Nat) : Int))), some (.inl x1), some (.inl y19)] [] h18 Q))))))))))))) : am_R (am_prog scr) (d + 1) f_Tally_drawLot 33 [some (.inr (.inr ((43 : Nat) : Int))), some (.inl x1), some (.inl x2)] [] h Q := by
  have hp : ∀ k, (am_prog scr).1 f_Tally_drawLot k = c_Tally_drawLot k := fun _ => rfl
  refine am_R.next ((hp 33).trans rfl) rfl ?_
  refine am_R.next ((hp 34).trans rfl) rfl ?_
  refine r_getR ((hp 35).trans rfl) (hw.o (i := 43) (by decide) rfl) (hw.r wr_43_0) ?_
  refine r_cv (bs := []) (st' := [.inl x2]) ((hp 38).trans rfl) (hw.o (i := 30) (by decide) rfl) rfl rfl (Nat.le_of_ble_eq_true rfl) (Nat.le_of_ble_eq_true rfl) (am_R.post H (fun v g1 hq => ?_))
  obtain ⟨r2, rfl, hw, H⟩ := hq
  change am_R _ _ _ _ _ [.inl r2, .inl x2] _ _
  refine r_ic ((hp 41).trans rfl) (fun c20 => ?_) (fun c20 => ?_)
  · have H := H.1 c20
    refine am_R.next ((hp 73).trans rfl) rfl ?_
    refine r_getR ((hp 74).trans rfl) (hw.o (i := 43) (by decide) rfl) rfl ?_
    refine am_R.next ((hp 77).trans rfl) rfl ?_
    refine r_getR ((hp 78).trans rfl) (hw.o (i := 43) (by decide) rfl) (hw.r wr_43_0) ?_
    refine am_R.next ((hp 81).trans rfl) rfl ?_
    refine am_R.next ((hp 82).trans rfl) rfl ?_
    refine r_cv (bs := [.inl x1, .inl 0]) (st' := [.inr (.inr (g1.2.2.2 43 2))]) ((hp 83).trans rfl) (hw.o (i := 30) (by decide) rfl) rfl rfl (Nat.le_of_ble_eq_true rfl) (Nat.le_of_ble_eq_true rfl) (am_R.post H (fun v g3 hq => ?_))
    obtain ⟨r4, rfl, hw, H⟩ := hq
    change am_R _ _ _ _ _ [.inl r4, .inr (.inr (g1.2.2.2 43 2))] _ _
    refine am_R.next ((hp 86).trans rfl) rfl ?_
    obtain ⟨c5, H⟩ := H
    refine r_lald ((hp 87).trans rfl) c5 ?_
    refine am_R.next ((hp 88).trans rfl) rfl ?_
    refine am_R.next ((hp 90).trans rfl) rfl ?_
    refine r_getR ((hp 91).trans rfl) (hw.o (i := 43) (by decide) rfl) (hw.r wr_43_0) ?_
    refine r_cv (bs := []) (st' := [.inl 10, .inr (.inl (g3.2.2.2 ((g1.2.2.2 43 2).toNat) r4.toNat)), .inl r4, .inr (.inr (g1.2.2.2 43 2))]) ((hp 94).trans rfl) (hw.o (i := 30) (by decide) rfl) rfl rfl (Nat.le_of_ble_eq_true rfl) (Nat.le_of_ble_eq_true rfl) (am_R.post H (fun v g6 hq => ?_))
    obtain ⟨r7, rfl, hw, H⟩ := hq
    change am_R _ _ _ _ _ [.inl r7, .inl 10, .inr (.inl (g3.2.2.2 ((g1.2.2.2 43 2).toNat) r4.toNat)), .inl r4, .inr (.inr (g1.2.2.2 43 2))] _ _
    refine am_R.next ((hp 97).trans rfl) rfl ?_
    refine am_R.next ((hp 98).trans rfl) rfl ?_
    refine am_R.next ((hp 99).trans rfl) rfl ?_
    refine r_getR ((hp 100).trans rfl) (hw.o (i := 43) (by decide) rfl) rfl ?_
    refine am_R.next ((hp 103).trans rfl) rfl ?_
    obtain ⟨c8, H⟩ := H
    refine r_lald ((hp 104).trans rfl) c8 ?_
    refine am_R.next ((hp 105).trans rfl) rfl ?_
    refine am_R.next ((hp 106).trans rfl) rfl ?_
    obtain ⟨c9, H⟩ := H
    obtain ⟨c10, H⟩ := H
    obtain ⟨h11, eh11⟩ : ∃ z : am_H, z = am_put g6 ((g1.2.2.2 43 2).toNat) r4.toNat (am_W ((g3.2.2.2 ((g1.2.2.2 43 2).toNat) r4.toNat) + (am_W ((am_w (10 - r7)) * (g6.2.2.2 ((g6.2.2.2 43 1).toNat) x1.toNat))))) := ⟨_, rfl⟩
    have H := H h11 eh11
    refine r_last ((hp 107).trans rfl) c9 ?_
    have hw : wf h11 := by rw [eh11]; exact hw.pa c10
    change am_R _ _ _ _ _ _ (am_put g6 ((g1.2.2.2 43 2).toNat) r4.toNat (am_W ((g3.2.2.2 ((g1.2.2.2 43 2).toNat) r4.toNat) + (am_W ((am_w (10 - r7)) * (g6.2.2.2 ((g6.2.2.2 43 1).toNat) x1.toNat)))))) _
    rw [← eh11]
    exact am_R.ret ((hp 108).trans rfl) rfl H
  · have H := H.2 c20
    refine am_R.next ((hp 44).trans rfl) rfl ?_
    refine r_getR ((hp 45).trans rfl) (hw.o (i := 43) (by decide) rfl) rfl ?_
    refine am_R.next ((hp 48).trans rfl) rfl ?_
    refine r_getR ((hp 49).trans rfl) (hw.o (i := 43) (by decide) rfl) (hw.r wr_43_0) ?_
    refine am_R.next ((hp 52).trans rfl) rfl ?_
    refine am_R.next ((hp 53).trans rfl) rfl ?_
    refine r_cv (bs := [.inl x1, .inl x2]) (st' := [.inr (.inr (g1.2.2.2 43 2))]) ((hp 54).trans rfl) (hw.o (i := 30) (by decide) rfl) rfl rfl (Nat.le_of_ble_eq_true rfl) (Nat.le_of_ble_eq_true rfl) (am_R.post H (fun v g12 hq => ?_))
    obtain ⟨r13, rfl, hw, H⟩ := hq
    change am_R _ _ _ _ _ [.inl r13, .inr (.inr (g1.2.2.2 43 2))] _ _
    refine am_R.next ((hp 57).trans rfl) rfl ?_
    obtain ⟨c14, H⟩ := H
    refine r_lald ((hp 58).trans rfl) c14 ?_
    refine am_R.next ((hp 59).trans rfl) rfl ?_
    refine r_getR ((hp 60).trans rfl) (hw.o (i := 43) (by decide) rfl) rfl ?_
    refine am_R.next ((hp 63).trans rfl) rfl ?_
    obtain ⟨c15, H⟩ := H
    refine r_lald ((hp 64).trans rfl) c15 ?_
    refine am_R.next ((hp 65).trans rfl) rfl ?_
    obtain ⟨c16, H⟩ := H
    obtain ⟨c17, H⟩ := H
    obtain ⟨h18, eh18⟩ : ∃ z : am_H, z = am_put g12 ((g1.2.2.2 43 2).toNat) r13.toNat (am_W ((g12.2.2.2 ((g1.2.2.2 43 2).toNat) r13.toNat) + (g12.2.2.2 ((g12.2.2.2 43 1).toNat) x1.toNat))) := ⟨_, rfl⟩
    have H := H h18 eh18
    refine r_last ((hp 66).trans rfl) c16 ?_
    have hw : wf h18 := by rw [eh18]; exact hw.pa c17
    change am_R _ _ _ _ _ _ (am_put g12 ((g1.2.2.2 43 2).toNat) r13.toNat (am_W ((g12.2.2.2 ((g1.2.2.2 43 2).toNat) r13.toNat) + (g12.2.2.2 ((g12.2.2.2 43 1).toNat) x1.toNat)))) _
    rw [← eh18]
    obtain ⟨y19, ey19⟩ : ∃ z : Int, z = am_w (x2 + 1) := ⟨_, rfl⟩
    have H := H y19 ey19
    refine am_R.next (lv' := [some (.inr (.inr ((43 : Nat) : Int))), some (.inl x1), some (.inl y19)]) (st' := []) (h' := h18) (pc' := 70) ((hp 67).trans rfl) (by rw [ey19]; rfl) ?_
    refine am_R.next ((hp 70).trans rfl) rfl ?_
    exact H
theorem w_Tally_endsDrawn_0 {scr : Nat × (Nat → Int)} {d : Nat} {h : am_H} {Q : Option am_V → am_H → Prop} (hs : am_sc scr) (hw : wf h) (H : am_R (am_prog scr) (d + 1) f_Tally_endsDrawn 4 [some (.inr (.inr ((43 : Nat) : Int))), some (.inr (.inl 0)), none, some (.inl 0)] [] h Q) : am_R (am_prog scr) (d + 1) f_Tally_endsDrawn 0 [some (.inr (.inr ((43 : Nat) : Int))), none, none, none] [] h Q := by
  have hp : ∀ k, (am_prog scr).1 f_Tally_endsDrawn k = c_Tally_endsDrawn k := fun _ => rfl
  refine am_R.next ((hp 0).trans rfl) rfl ?_
  refine am_R.next (lv' := [some (.inr (.inr ((43 : Nat) : Int))), some (.inr (.inl 0)), none, none]) ((hp 1).trans rfl) rfl ?_
  refine am_R.next ((hp 2).trans rfl) rfl ?_
  refine am_R.next (lv' := [some (.inr (.inr ((43 : Nat) : Int))), some (.inr (.inl 0)), none, some (.inl 0)]) ((hp 3).trans rfl) rfl ?_
  exact H
theorem w_Tally_endsDrawn_4 {scr : Nat × (Nat → Int)} {d : Nat} {h : am_H} {Q : Option am_V → am_H → Prop} {x1 x3 : Int} (hs : am_sc scr) (hw : wf h) (H : (¬ (x3 < 185) → (Q (some (.inr (.inl x1))) h)) ∧ (x3 < 185 → (am_R (am_prog scr) d f_Graph_isEnd 0 [some (.inr (.inr ((30 : Nat) : Int))), some (.inl x3)] [] h (fun v g1 => ∃ r2 : Int, v = some (.inl r2) ∧ wf g1 ∧ ((r2 = 0 → (∀ y3 : Int, y3 = am_w (x3 + 1) → (am_R (am_prog scr) (d + 1) f_Tally_endsDrawn 4 [some (.inr (.inr ((43 : Nat) : Int))), some (.inr (.inl x1)), none, some (.inl y3)] [] g1 Q))) ∧ (¬ (r2 = 0) → (am_inA g1 (g1.2.2.2 43 1) 2 x3 ∧ (∀ y5 : Int, y5 = am_W (x1 + (g1.2.2.2 ((g1.2.2.2 43 1).toNat) x3.toNat)) → (∀ y6 : Int, y6 = am_w (x3 + 1) → (am_R (am_prog scr) (d + 1) f_Tally_endsDrawn 4 [some (.inr (.inr ((43 : Nat) : Int))), some (.inr (.inl y5)), none, some (.inl y6)] [] g1 Q)))))))))) : am_R (am_prog scr) (d + 1) f_Tally_endsDrawn 4 [some (.inr (.inr ((43 : Nat) : Int))), some (.inr (.inl x1)), none, some (.inl x3)] [] h Q := by
  have hp : ∀ k, (am_prog scr).1 f_Tally_endsDrawn k = c_Tally_endsDrawn k := fun _ => rfl
  refine am_R.next ((hp 4).trans rfl) rfl ?_
  refine am_R.next ((hp 5).trans rfl) rfl ?_
  refine r_ic ((hp 8).trans rfl) (fun c8 => ?_) (fun c8 => ?_)
  · have H := H.1 c8
    refine am_R.next ((hp 37).trans rfl) rfl ?_
    exact am_R.ret ((hp 38).trans rfl) rfl H
  · have H := H.2 (Decidable.not_not.mp c8)
    refine am_R.next ((hp 11).trans rfl) rfl ?_
    refine r_getR ((hp 12).trans rfl) (hw.o (i := 43) (by decide) rfl) (hw.r wr_43_0) ?_
    refine am_R.next ((hp 15).trans rfl) rfl ?_
    refine r_cv (bs := [.inl x3]) (st' := []) ((hp 16).trans rfl) (hw.o (i := 30) (by decide) rfl) rfl rfl (Nat.le_of_ble_eq_true rfl) (Nat.le_of_ble_eq_true rfl) (am_R.post H (fun v g1 hq => ?_))
    obtain ⟨r2, rfl, hw, H⟩ := hq
    change am_R _ _ _ _ _ [.inl r2] _ _
    refine r_if ((hp 19).trans rfl) (fun c7 => ?_) (fun c7 => ?_)
    · have H := H.1 c7
      obtain ⟨y3, ey3⟩ : ∃ z : Int, z = am_w (x3 + 1) := ⟨_, rfl⟩
      have H := H y3 ey3
      refine am_R.next (lv' := [some (.inr (.inr ((43 : Nat) : Int))), some (.inr (.inl x1)), none, some (.inl y3)]) (st' := []) (h' := g1) (pc' := 34) ((hp 31).trans rfl) (by rw [ey3]; rfl) ?_
      refine am_R.next ((hp 34).trans rfl) rfl ?_
      exact H
    · have H := H.2 c7
      refine am_R.next ((hp 22).trans rfl) rfl ?_
      refine am_R.next ((hp 23).trans rfl) rfl ?_
      refine r_getR ((hp 24).trans rfl) (hw.o (i := 43) (by decide) rfl) rfl ?_
      refine am_R.next ((hp 27).trans rfl) rfl ?_
      obtain ⟨c4, H⟩ := H
      refine r_lald ((hp 28).trans rfl) c4 ?_
      refine am_R.next ((hp 29).trans rfl) rfl ?_
      obtain ⟨y5, ey5⟩ : ∃ z : Int, z = am_W (x1 + (g1.2.2.2 ((g1.2.2.2 43 1).toNat) x3.toNat)) := ⟨_, rfl⟩
      have H := H y5 ey5
      refine am_R.next (lv' := [some (.inr (.inr ((43 : Nat) : Int))), some (.inr (.inl y5)), none, some (.inl x3)]) (st' := []) (h' := g1) (pc' := 31) ((hp 30).trans rfl) (by rw [ey5]; rfl) ?_
      obtain ⟨y6, ey6⟩ : ∃ z : Int, z = am_w (x3 + 1) := ⟨_, rfl⟩
      have H := H y6 ey6
      refine am_R.next (lv' := [some (.inr (.inr ((43 : Nat) : Int))), some (.inr (.inl y5)), none, some (.inl y6)]) (st' := []) (h' := g1) (pc' := 34) ((hp 31).trans rfl) (by rw [ey6]; rfl) ?_
      refine am_R.next ((hp 34).trans rfl) rfl ?_
      exact H
theorem w_Tally_actsDrawn_0 {scr : Nat × (Nat → Int)} {d : Nat} {h : am_H} {Q : Option am_V → am_H → Prop} (hs : am_sc scr) (hw : wf h) (H : am_R (am_prog scr) (d + 1) f_Tally_actsDrawn 4 [some (.inr (.inr ((43 : Nat) : Int))), some (.inr (.inl 0)), none, some (.inl 0)] [] h Q) : am_R (am_prog scr) (d + 1) f_Tally_actsDrawn 0 [some (.inr (.inr ((43 : Nat) : Int))), none, none, none] [] h Q := by
  have hp : ∀ k, (am_prog scr).1 f_Tally_actsDrawn k = c_Tally_actsDrawn k := fun _ => rfl
  refine am_R.next ((hp 0).trans rfl) rfl ?_
  refine am_R.next (lv' := [some (.inr (.inr ((43 : Nat) : Int))), some (.inr (.inl 0)), none, none]) ((hp 1).trans rfl) rfl ?_
  refine am_R.next ((hp 2).trans rfl) rfl ?_
  refine am_R.next (lv' := [some (.inr (.inr ((43 : Nat) : Int))), some (.inr (.inl 0)), none, some (.inl 0)]) ((hp 3).trans rfl) rfl ?_
  exact H
theorem w_Tally_actsDrawn_4 {scr : Nat × (Nat → Int)} {d : Nat} {h : am_H} {Q : Option am_V → am_H → Prop} {x1 x3 : Int} (hs : am_sc scr) (hw : wf h) (H : (¬ (x3 < 185) → (Q (some (.inr (.inl x1))) h)) ∧ (x3 < 185 → (am_R (am_prog scr) d f_Graph_actOf 0 [some (.inr (.inr ((30 : Nat) : Int))), some (.inl x3)] [] h (fun v g1 => ∃ r2 : Int, v = some (.inl r2) ∧ wf g1 ∧ (am_inA g1 (g1.2.2.2 43 1) 2 x3 ∧ (∀ y4 : Int, y4 = am_W (x1 + (am_W (r2 * (g1.2.2.2 ((g1.2.2.2 43 1).toNat) x3.toNat)))) → (∀ y5 : Int, y5 = am_w (x3 + 1) → (am_R (am_prog scr) (d + 1) f_Tally_actsDrawn 4 [some (.inr (.inr ((43 : Nat) : Int))), some (.inr (.inl y4)), none, some (.inl y5)] [] g1 Q)))))))) : am_R (am_prog scr) (d + 1) f_Tally_actsDrawn 4 [some (.inr (.inr ((43 : Nat) : Int))), some (.inr (.inl x1)), none, some (.inl x3)] [] h Q := by
  have hp : ∀ k, (am_prog scr).1 f_Tally_actsDrawn k = c_Tally_actsDrawn k := fun _ => rfl
  refine am_R.next ((hp 4).trans rfl) rfl ?_
  refine am_R.next ((hp 5).trans rfl) rfl ?_
  refine r_ic ((hp 8).trans rfl) (fun c6 => ?_) (fun c6 => ?_)
  · have H := H.1 c6
    refine am_R.next ((hp 36).trans rfl) rfl ?_
    exact am_R.ret ((hp 37).trans rfl) rfl H
  · have H := H.2 (Decidable.not_not.mp c6)
    refine am_R.next ((hp 11).trans rfl) rfl ?_
    refine am_R.next ((hp 12).trans rfl) rfl ?_
    refine r_getR ((hp 13).trans rfl) (hw.o (i := 43) (by decide) rfl) (hw.r wr_43_0) ?_
    refine am_R.next ((hp 16).trans rfl) rfl ?_
    refine r_cv (bs := [.inl x3]) (st' := [.inr (.inl x1)]) ((hp 17).trans rfl) (hw.o (i := 30) (by decide) rfl) rfl rfl (Nat.le_of_ble_eq_true rfl) (Nat.le_of_ble_eq_true rfl) (am_R.post H (fun v g1 hq => ?_))
    obtain ⟨r2, rfl, hw, H⟩ := hq
    change am_R _ _ _ _ _ [.inl r2, .inr (.inl x1)] _ _
    refine am_R.next ((hp 20).trans rfl) rfl ?_
    refine am_R.next ((hp 21).trans rfl) rfl ?_
    refine r_getR ((hp 22).trans rfl) (hw.o (i := 43) (by decide) rfl) rfl ?_
    refine am_R.next ((hp 25).trans rfl) rfl ?_
    obtain ⟨c3, H⟩ := H
    refine r_lald ((hp 26).trans rfl) c3 ?_
    refine am_R.next ((hp 27).trans rfl) rfl ?_
    refine am_R.next ((hp 28).trans rfl) rfl ?_
    obtain ⟨y4, ey4⟩ : ∃ z : Int, z = am_W (x1 + (am_W (r2 * (g1.2.2.2 ((g1.2.2.2 43 1).toNat) x3.toNat)))) := ⟨_, rfl⟩
    have H := H y4 ey4
    refine am_R.next (lv' := [some (.inr (.inr ((43 : Nat) : Int))), some (.inr (.inl y4)), none, some (.inl x3)]) (st' := []) (h' := g1) (pc' := 30) ((hp 29).trans rfl) (by rw [ey4]; rfl) ?_
    obtain ⟨y5, ey5⟩ : ∃ z : Int, z = am_w (x3 + 1) := ⟨_, rfl⟩
    have H := H y5 ey5
    refine am_R.next (lv' := [some (.inr (.inr ((43 : Nat) : Int))), some (.inr (.inl y4)), none, some (.inl y5)]) (st' := []) (h' := g1) (pc' := 33) ((hp 30).trans rfl) (by rw [ey5]; rfl) ?_
    refine am_R.next ((hp 33).trans rfl) rfl ?_
    exact H
theorem w_Tally_commonDivisor_0 {scr : Nat × (Nat → Int)} {d : Nat} {h : am_H} {Q : Option am_V → am_H → Prop} {x0 x2 : Int} (hs : am_sc scr) (hw : wf h) (H : am_R (am_prog scr) d f_Tally_commonDivisor 9 [some (.inr (.inl x0)), none, some (.inr (.inl x2)), none, some (.inr (.inl x0)), none, some (.inr (.inl x2)), none, some (.inl 0), none, none] [] h Q) : am_R (am_prog scr) d f_Tally_commonDivisor 0 [some (.inr (.inl x0)), none, some (.inr (.inl x2)), none, none, none, none, none, none, none, none] [] h Q := by
  have hp : ∀ k, (am_prog scr).1 f_Tally_commonDivisor k = c_Tally_commonDivisor k := fun _ => rfl
  refine am_R.next ((hp 0).trans rfl) rfl ?_
  refine am_R.next (lv' := [some (.inr (.inl x0)), none, some (.inr (.inl x2)), none, some (.inr (.inl x0)), none, none, none, none, none, none]) ((hp 1).trans rfl) rfl ?_
  refine am_R.next ((hp 3).trans rfl) rfl ?_
  refine am_R.next (lv' := [some (.inr (.inl x0)), none, some (.inr (.inl x2)), none, some (.inr (.inl x0)), none, some (.inr (.inl x2)), none, none, none, none]) ((hp 4).trans rfl) rfl ?_
  refine am_R.next ((hp 6).trans rfl) rfl ?_
  refine am_R.next (lv' := [some (.inr (.inl x0)), none, some (.inr (.inl x2)), none, some (.inr (.inl x0)), none, some (.inr (.inl x2)), none, some (.inl 0), none, none]) ((hp 7).trans rfl) rfl ?_
  exact H
theorem w_Tally_commonDivisor_9 {scr : Nat × (Nat → Int)} {d : Nat} {h : am_H} {Q : Option am_V → am_H → Prop} {x0 x2 x4 x6 x8 : Int} (hs : am_sc scr) (hw : wf h) (H : (¬ (x8 < 130) → (Q (some (.inr (.inl x4))) h)) ∧ (x8 < 130 → ((x6 = 0 → (Q (some (.inr (.inl x4))) h)) ∧ (¬ (x6 = 0) → (x6 ≠ 0 ∧ (∀ y1 : Int, y1 = x4.tmod x6 → (∀ y2 : Int, y2 = am_w (x8 + 1) → (am_R (am_prog scr) d f_Tally_commonDivisor 9 [some (.inr (.inl x0)), none, some (.inr (.inl x2)), none, some (.inr (.inl x6)), none, some (.inr (.inl y1)), none, some (.inl y2), none, none] [] h Q)))))))) : am_R (am_prog scr) d f_Tally_commonDivisor 9 [some (.inr (.inl x0)), none, some (.inr (.inl x2)), none, some (.inr (.inl x4)), none, some (.inr (.inl x6)), none, some (.inl x8), none, none] [] h Q := by
  have hp : ∀ k, (am_prog scr).1 f_Tally_commonDivisor k = c_Tally_commonDivisor k := fun _ => rfl
  refine am_R.next ((hp 9).trans rfl) rfl ?_
  refine am_R.next ((hp 11).trans rfl) rfl ?_
  refine r_ic ((hp 14).trans rfl) (fun c5 => ?_) (fun c5 => ?_)
  · have H := H.1 c5
    refine am_R.next ((hp 45).trans rfl) rfl ?_
    exact am_R.ret ((hp 47).trans rfl) rfl H
  · have H := H.2 (Decidable.not_not.mp c5)
    refine am_R.next ((hp 17).trans rfl) rfl ?_
    refine am_R.next ((hp 19).trans rfl) rfl ?_
    refine am_R.next ((hp 20).trans rfl) rfl ?_
    refine r_if ((hp 21).trans rfl) (fun c4 => ?_) (fun c4 => ?_)
    · have H := H.1 (lc_eqt c4)
      refine am_R.next ((hp 45).trans rfl) rfl ?_
      exact am_R.ret ((hp 47).trans rfl) rfl H
    · have H := H.2 (lc_eqf c4)
      refine am_R.next ((hp 24).trans rfl) rfl ?_
      refine am_R.next ((hp 26).trans rfl) rfl ?_
      obtain ⟨c3, H⟩ := H
      refine r_l2z ((hp 28).trans rfl) c3 ?_
      obtain ⟨y1, ey1⟩ : ∃ z : Int, z = x4.tmod x6 := ⟨_, rfl⟩
      have H := H y1 ey1
      refine am_R.next (lv' := [some (.inr (.inl x0)), none, some (.inr (.inl x2)), none, some (.inr (.inl x4)), none, some (.inr (.inl x6)), none, some (.inl x8), some (.inr (.inl y1)), none]) (st' := []) (h' := h) (pc' := 31) ((hp 29).trans rfl) (by rw [ey1]; rfl) ?_
      refine am_R.next ((hp 31).trans rfl) rfl ?_
      refine am_R.next (lv' := [some (.inr (.inl x0)), none, some (.inr (.inl x2)), none, some (.inr (.inl x6)), none, some (.inr (.inl x6)), none, some (.inl x8), some (.inr (.inl y1)), none]) ((hp 33).trans rfl) rfl ?_
      refine am_R.next ((hp 35).trans rfl) rfl ?_
      refine am_R.next (lv' := [some (.inr (.inl x0)), none, some (.inr (.inl x2)), none, some (.inr (.inl x6)), none, some (.inr (.inl y1)), none, some (.inl x8), some (.inr (.inl y1)), none]) ((hp 37).trans rfl) rfl ?_
      obtain ⟨y2, ey2⟩ : ∃ z : Int, z = am_w (x8 + 1) := ⟨_, rfl⟩
      have H := H y2 ey2
      refine am_R.next (lv' := [some (.inr (.inl x0)), none, some (.inr (.inl x2)), none, some (.inr (.inl x6)), none, some (.inr (.inl y1)), none, some (.inl y2), some (.inr (.inl y1)), none]) (st' := []) (h' := h) (pc' := 42) ((hp 39).trans rfl) (by rw [ey2]; rfl) ?_
      refine am_R.next ((hp 42).trans rfl) rfl ?_
      exact r_le hs in_276 (le_k (le_k (le_k (le_k (le_k (le_k (le_k (le_k (le_k (le_d (le_k le_n))))))))))) H
theorem w_Tally_fits_0 {scr : Nat × (Nat → Int)} {d : Nat} {h : am_H} {Q : Option am_V → am_H → Prop} {x1 x2 : Int} (hs : am_sc scr) (hw : wf h) (H : am_R (am_prog scr) d f_Graph_isStill 0 [some (.inr (.inr ((30 : Nat) : Int))), some (.inl x1)] [] h (fun v g1 => ∃ r2 : Int, v = some (.inl r2) ∧ wf g1 ∧ ((¬ (r2 = 0) → (Q (some (.inl 0)) g1)) ∧ (r2 = 0 → ((x2 = (-1) → (Q (some (.inl 1)) g1)) ∧ (¬ (x2 = (-1)) → (am_R (am_prog scr) d f_Graph_soundOf 0 [some (.inr (.inr ((30 : Nat) : Int))), some (.inl x1)] [] g1 (fun v g3 => ∃ r4 : Int, v = some (.inl r4) ∧ wf g3 ∧ ((¬ (r4 = x2) → (Q (some (.inl 0)) g3)) ∧ (r4 = x2 → (Q (some (.inl 1)) g3))))))))))) : am_R (am_prog scr) (d + 1) f_Tally_fits 0 [some (.inr (.inr ((43 : Nat) : Int))), some (.inl x1), some (.inr (.inl x2)), none] [] h Q := by
  have hp : ∀ k, (am_prog scr).1 f_Tally_fits k = c_Tally_fits k := fun _ => rfl
  refine am_R.next ((hp 0).trans rfl) rfl ?_
  refine r_getR ((hp 1).trans rfl) (hw.o (i := 43) (by decide) rfl) (hw.r wr_43_0) ?_
  refine am_R.next ((hp 4).trans rfl) rfl ?_
  refine r_cv (bs := [.inl x1]) (st' := []) ((hp 5).trans rfl) (hw.o (i := 30) (by decide) rfl) rfl rfl (Nat.le_of_ble_eq_true rfl) (Nat.le_of_ble_eq_true rfl) (am_R.post H (fun v g1 hq => ?_))
  obtain ⟨r2, rfl, hw, H⟩ := hq
  change am_R _ _ _ _ _ [.inl r2] _ _
  refine r_if ((hp 8).trans rfl) (fun c7 => ?_) (fun c7 => ?_)
  · have H := H.1 c7
    refine am_R.next ((hp 37).trans rfl) rfl ?_
    exact r_zret ((hp 38).trans rfl) (Or.inl rfl) H
  · have H := H.2 (Decidable.not_not.mp c7)
    refine am_R.next ((hp 11).trans rfl) rfl ?_
    refine am_R.next ((hp 12).trans rfl) rfl ?_
    refine am_R.next ((hp 15).trans rfl) rfl ?_
    refine r_if ((hp 16).trans rfl) (fun c6 => ?_) (fun c6 => ?_)
    · have H := H.1 (lc_eqt c6)
      refine am_R.next ((hp 33).trans rfl) rfl ?_
      refine am_R.next ((hp 34).trans rfl) rfl ?_
      exact r_zret ((hp 38).trans rfl) (Or.inr rfl) H
    · have H := H.2 (lc_eqf c6)
      refine am_R.next ((hp 19).trans rfl) rfl ?_
      refine r_getR ((hp 20).trans rfl) (hw.o (i := 43) (by decide) rfl) (hw.r wr_43_0) ?_
      refine am_R.next ((hp 23).trans rfl) rfl ?_
      refine r_cv (bs := [.inl x1]) (st' := []) ((hp 24).trans rfl) (hw.o (i := 30) (by decide) rfl) rfl rfl (Nat.le_of_ble_eq_true rfl) (Nat.le_of_ble_eq_true rfl) (am_R.post H (fun v g3 hq => ?_))
      obtain ⟨r4, rfl, hw, H⟩ := hq
      change am_R _ _ _ _ _ [.inl r4] _ _
      refine am_R.next ((hp 27).trans rfl) rfl ?_
      refine am_R.next ((hp 28).trans rfl) rfl ?_
      refine am_R.next ((hp 29).trans rfl) rfl ?_
      refine r_if ((hp 30).trans rfl) (fun c5 => ?_) (fun c5 => ?_)
      · have H := H.1 (lc_net c5)
        refine am_R.next ((hp 37).trans rfl) rfl ?_
        exact r_zret ((hp 38).trans rfl) (Or.inl rfl) H
      · have H := H.2 (lc_nef c5)
        refine am_R.next ((hp 33).trans rfl) rfl ?_
        refine am_R.next ((hp 34).trans rfl) rfl ?_
        exact r_zret ((hp 38).trans rfl) (Or.inr rfl) H
theorem w_Tally_isMet_0 {scr : Nat × (Nat → Int)} {d : Nat} {h : am_H} {Q : Option am_V → am_H → Prop} {x1 x2 : Int} (hs : am_sc scr) (hw : wf h) (H : (0 ≤ x1 ∧ x1 < 185) ∧ (((am_and (am_shr (h.2.2.2 46 x1.toNat) x2) 1) = 0 → (Q (some (.inl 0)) h)) ∧ (¬ ((am_and (am_shr (h.2.2.2 46 x1.toNat) x2) 1) = 0) → (Q (some (.inl 1)) h)))) : am_R (am_prog scr) d f_Tally_isMet 0 [some (.inr (.inr ((43 : Nat) : Int))), some (.inl x1), some (.inl x2)] [] h Q := by
  have hp : ∀ k, (am_prog scr).1 f_Tally_isMet k = c_Tally_isMet k := fun _ => rfl
  refine am_R.next ((hp 0).trans rfl) rfl ?_
  refine r_getR ((hp 1).trans rfl) (hw.o (i := 43) (by decide) rfl) (hw.r wr_43_3) ?_
  refine am_R.next ((hp 4).trans rfl) rfl ?_
  obtain ⟨c1, H⟩ := H
  refine r_iald ((hp 5).trans rfl) (hw.a (i := 46) (by decide) rfl c1.1 c1.2) ?_
  refine am_R.next ((hp 6).trans rfl) rfl ?_
  refine am_R.next ((hp 7).trans rfl) rfl ?_
  refine am_R.next ((hp 8).trans rfl) rfl ?_
  refine am_R.next ((hp 9).trans rfl) rfl ?_
  refine r_if ((hp 10).trans rfl) (fun c2 => ?_) (fun c2 => ?_)
  · have H := H.1 c2
    refine am_R.next ((hp 17).trans rfl) rfl ?_
    exact r_zret ((hp 18).trans rfl) (Or.inl rfl) H
  · have H := H.2 c2
    refine am_R.next ((hp 13).trans rfl) rfl ?_
    refine am_R.next ((hp 14).trans rfl) rfl ?_
    exact r_zret ((hp 18).trans rfl) (Or.inr rfl) H
theorem w_Tally_listen_0 {scr : Nat × (Nat → Int)} {d : Nat} {h : am_H} {Q : Option am_V → am_H → Prop} {t1 : Nat} (ht1 : t1 ∈ TR) (hs : am_sc scr) (hw : wf h) (H : am_R (am_prog scr) d f_jA_fill2 0 [some (.inr (.inr ((46 : Nat) : Int))), some (.inl 0), none, none] [] h (fun v g1 => v = none ∧ wf g1 ∧ (((0 ≤ (g1.2.2.2 30 5) ∧ (g1.2.2.2 30 5) < 185)) ∧ (∀ h3 : am_H, h3 = am_put g1 46 ((g1.2.2.2 30 5).toNat) 1 → (am_R (am_prog scr) (d + 1) f_Tally_listen 23 [some (.inr (.inr ((43 : Nat) : Int))), some (.inr (.inr ((t1 : Nat) : Int))), some (.inl 0), none] [] h3 Q))))) : am_R (am_prog scr) (d + 1) f_Tally_listen 0 [some (.inr (.inr ((43 : Nat) : Int))), some (.inr (.inr ((t1 : Nat) : Int))), none, none] [] h Q := by
  have hp : ∀ k, (am_prog scr).1 f_Tally_listen k = c_Tally_listen k := fun _ => rfl
  refine am_R.next ((hp 0).trans rfl) rfl ?_
  refine r_getR ((hp 1).trans rfl) (hw.o (i := 43) (by decide) rfl) (hw.r wr_43_3) ?_
  refine am_R.next ((hp 4).trans rfl) rfl ?_
  refine r_cs (as := [.inr (.inr ((46 : Nat) : Int)), .inl 0]) (st' := []) ((hp 5).trans rfl) rfl rfl (Nat.le_of_ble_eq_true rfl) (Nat.le_of_ble_eq_true rfl) (am_R.post H (fun v g1 hq => ?_))
  obtain ⟨rfl, hw, H⟩ := hq
  change am_R _ _ _ _ _ [] _ _
  refine am_R.next ((hp 8).trans rfl) rfl ?_
  refine r_getR ((hp 9).trans rfl) (hw.o (i := 43) (by decide) rfl) (hw.r wr_43_3) ?_
  refine am_R.next ((hp 12).trans rfl) rfl ?_
  refine r_getR ((hp 13).trans rfl) (hw.o (i := 43) (by decide) rfl) (hw.r wr_43_0) ?_
  refine r_getI ((hp 16).trans rfl) (hw.o (i := 30) (by decide) rfl) ?_
  refine am_R.next ((hp 19).trans rfl) rfl ?_
  obtain ⟨c2, H⟩ := H
  obtain ⟨h3, eh3⟩ : ∃ z : am_H, z = am_put g1 46 ((g1.2.2.2 30 5).toNat) 1 := ⟨_, rfl⟩
  have H := H h3 eh3
  refine r_iast ((hp 20).trans rfl) (hw.a (i := 46) (by decide) rfl c2.1 c2.2) ?_
  have hw : wf h3 := by rw [eh3]; exact hw.pa na_46
  change am_R _ _ _ _ _ _ (am_put g1 46 ((g1.2.2.2 30 5).toNat) 1) _
  rw [← eh3]
  refine am_R.next ((hp 21).trans rfl) rfl ?_
  refine am_R.next (lv' := [some (.inr (.inr ((43 : Nat) : Int))), some (.inr (.inr ((t1 : Nat) : Int))), some (.inl 0), none]) ((hp 22).trans rfl) rfl ?_
  exact H
theorem w_Tally_listen_23 {scr : Nat × (Nat → Int)} {d : Nat} {h : am_H} {Q : Option am_V → am_H → Prop} {x2 : Int} {t1 : Nat} (ht1 : t1 ∈ TR) (hs : am_sc scr) (hw : wf h) (H : (¬ (x2 < (h.2.2.2 t1 2)) → (am_R (am_prog scr) d f_jM_min 0 [some (.inl (h.2.2.2 t1 2)), some (.inl 8)] [] h (fun v g1 => ∃ r2 : Int, v = some (.inl r2) ∧ wf g1 ∧ (am_R (am_prog scr) (d + 1) f_Tally_listen 100 [some (.inr (.inr ((43 : Nat) : Int))), some (.inr (.inr ((t1 : Nat) : Int))), some (.inl r2), none] [] g1 Q)))) ∧ (x2 < (h.2.2.2 t1 2) → ((¬ (x2 < 8) → (am_R (am_prog scr) d f_jM_min 0 [some (.inl (h.2.2.2 t1 2)), some (.inl 8)] [] h (fun v g3 => ∃ r4 : Int, v = some (.inl r4) ∧ wf g3 ∧ (am_R (am_prog scr) (d + 1) f_Tally_listen 100 [some (.inr (.inr ((43 : Nat) : Int))), some (.inr (.inr ((t1 : Nat) : Int))), some (.inl r4), none] [] g3 Q)))) ∧ (x2 < 8 → (am_R (am_prog scr) (d + 1) f_Tally_listen 39 [some (.inr (.inr ((43 : Nat) : Int))), some (.inr (.inr ((t1 : Nat) : Int))), some (.inl x2), some (.inl 0)] [] h Q))))) : am_R (am_prog scr) (d + 1) f_Tally_listen 23 [some (.inr (.inr ((43 : Nat) : Int))), some (.inr (.inr ((t1 : Nat) : Int))), some (.inl x2), none] [] h Q := by
  have hp : ∀ k, (am_prog scr).1 f_Tally_listen k = c_Tally_listen k := fun _ => rfl
  refine am_R.next ((hp 23).trans rfl) rfl ?_
  refine am_R.next ((hp 24).trans rfl) rfl ?_
  refine r_getI ((hp 25).trans rfl) (tr_o ht1 hw) ?_
  refine r_ic ((hp 28).trans rfl) (fun c6 => ?_) (fun c6 => ?_)
  · have H := H.1 c6
    refine am_R.next ((hp 90).trans rfl) rfl ?_
    refine r_getI ((hp 91).trans rfl) (tr_o ht1 hw) ?_
    refine am_R.next ((hp 94).trans rfl) rfl ?_
    refine r_cs (as := [.inl (h.2.2.2 t1 2), .inl 8]) (st' := []) ((hp 96).trans rfl) rfl rfl (Nat.le_of_ble_eq_true rfl) (Nat.le_of_ble_eq_true rfl) (am_R.post H (fun v g1 hq => ?_))
    obtain ⟨r2, rfl, hw, H⟩ := hq
    change am_R _ _ _ _ _ [.inl r2] _ _
    refine am_R.next (lv' := [some (.inr (.inr ((43 : Nat) : Int))), some (.inr (.inr ((t1 : Nat) : Int))), some (.inl r2), none]) ((hp 99).trans rfl) rfl ?_
    exact H
  · have H := H.2 (Decidable.not_not.mp c6)
    refine am_R.next ((hp 31).trans rfl) rfl ?_
    refine am_R.next ((hp 32).trans rfl) rfl ?_
    refine r_ic ((hp 34).trans rfl) (fun c5 => ?_) (fun c5 => ?_)
    · have H := H.1 c5
      refine am_R.next ((hp 90).trans rfl) rfl ?_
      refine r_getI ((hp 91).trans rfl) (tr_o ht1 hw) ?_
      refine am_R.next ((hp 94).trans rfl) rfl ?_
      refine r_cs (as := [.inl (h.2.2.2 t1 2), .inl 8]) (st' := []) ((hp 96).trans rfl) rfl rfl (Nat.le_of_ble_eq_true rfl) (Nat.le_of_ble_eq_true rfl) (am_R.post H (fun v g3 hq => ?_))
      obtain ⟨r4, rfl, hw, H⟩ := hq
      change am_R _ _ _ _ _ [.inl r4] _ _
      refine am_R.next (lv' := [some (.inr (.inr ((43 : Nat) : Int))), some (.inr (.inr ((t1 : Nat) : Int))), some (.inl r4), none]) ((hp 99).trans rfl) rfl ?_
      exact H
    · have H := H.2 (Decidable.not_not.mp c5)
      refine am_R.next ((hp 37).trans rfl) rfl ?_
      refine am_R.next (lv' := [some (.inr (.inr ((43 : Nat) : Int))), some (.inr (.inr ((t1 : Nat) : Int))), some (.inl x2), some (.inl 0)]) ((hp 38).trans rfl) rfl ?_
      exact H
theorem w_Tally_listen_39 {scr : Nat × (Nat → Int)} {d : Nat} {h : am_H} {Q : Option am_V → am_H → Prop} {x2 x3 : Int} {t1 : Nat} (ht1 : t1 ∈ TR) (hs : am_sc scr) (hw : wf h) (H : (¬ (x3 < 180) → (∀ y1 : Int, y1 = am_w (x2 + 1) → (am_R (am_prog scr) (d + 1) f_Tally_listen 23 [some (.inr (.inr ((43 : Nat) : Int))), some (.inr (.inr ((t1 : Nat) : Int))), some (.inl y1), none] [] h Q))) ∧ (x3 < 180 → (am_R (am_prog scr) d f_Tally_isMet 0 [some (.inr (.inr ((43 : Nat) : Int))), some (.inl x3), some (.inl x2)] [] h (fun v g2 => ∃ r3 : Int, v = some (.inl r3) ∧ wf g2 ∧ ((r3 = 0 → (∀ y4 : Int, y4 = am_w (x3 + 1) → (am_R (am_prog scr) (d + 1) f_Tally_listen 39 [some (.inr (.inr ((43 : Nat) : Int))), some (.inr (.inr ((t1 : Nat) : Int))), some (.inl x2), some (.inl y4)] [] g2 Q))) ∧ (¬ (r3 = 0) → (am_R (am_prog scr) d f_Graph_goesOn 0 [some (.inr (.inr ((30 : Nat) : Int))), some (.inl x3)] [] g2 (fun v g5 => ∃ r6 : Int, v = some (.inl r6) ∧ wf g5 ∧ ((r6 = 0 → (∀ y7 : Int, y7 = am_w (x3 + 1) → (am_R (am_prog scr) (d + 1) f_Tally_listen 39 [some (.inr (.inr ((43 : Nat) : Int))), some (.inr (.inr ((t1 : Nat) : Int))), some (.inl x2), some (.inl y7)] [] g5 Q))) ∧ (¬ (r6 = 0) → ((0 ≤ x2 ∧ x2 < 40) ∧ (am_R (am_prog scr) d f_Tally_meetFrom 0 [some (.inr (.inr ((43 : Nat) : Int))), some (.inl x3), some (.inl x2), some (.inr (.inl (g5.2.2.2 (t1 + 1) x2.toNat))), none, none, none] [] g5 (fun v g9 => v = none ∧ wf g9 ∧ (∀ y10 : Int, y10 = am_w (x3 + 1) → (am_R (am_prog scr) (d + 1) f_Tally_listen 39 [some (.inr (.inr ((43 : Nat) : Int))), some (.inr (.inr ((t1 : Nat) : Int))), some (.inl x2), some (.inl y10)] [] g9 Q))))))))))))))) : am_R (am_prog scr) (d + 1) f_Tally_listen 39 [some (.inr (.inr ((43 : Nat) : Int))), some (.inr (.inr ((t1 : Nat) : Int))), some (.inl x2), some (.inl x3)] [] h Q := by
  have hp : ∀ k, (am_prog scr).1 f_Tally_listen k = c_Tally_listen k := fun _ => rfl
  refine am_R.next ((hp 39).trans rfl) rfl ?_
  refine am_R.next ((hp 40).trans rfl) rfl ?_
  refine r_ic ((hp 43).trans rfl) (fun c13 => ?_) (fun c13 => ?_)
  · have H := H.1 c13
    obtain ⟨y1, ey1⟩ : ∃ z : Int, z = am_w (x2 + 1) := ⟨_, rfl⟩
    have H := H y1 ey1
    refine am_R.next (lv' := [some (.inr (.inr ((43 : Nat) : Int))), some (.inr (.inr ((t1 : Nat) : Int))), some (.inl y1), some (.inl x3)]) (st' := []) (h' := h) (pc' := 87) ((hp 84).trans rfl) (by rw [ey1]; rfl) ?_
    refine am_R.next ((hp 87).trans rfl) rfl ?_
    exact r_le hs in_279 (le_k (le_k (le_k (le_d le_n)))) H
  · have H := H.2 (Decidable.not_not.mp c13)
    refine am_R.next ((hp 46).trans rfl) rfl ?_
    refine am_R.next ((hp 47).trans rfl) rfl ?_
    refine am_R.next ((hp 48).trans rfl) rfl ?_
    refine r_cv (bs := [.inl x3, .inl x2]) (st' := []) ((hp 49).trans rfl) (hw.o (i := 43) (by decide) rfl) rfl rfl (Nat.le_of_ble_eq_true rfl) (Nat.le_of_ble_eq_true rfl) (am_R.post H (fun v g2 hq => ?_))
    obtain ⟨r3, rfl, hw, H⟩ := hq
    change am_R _ _ _ _ _ [.inl r3] _ _
    refine r_if ((hp 52).trans rfl) (fun c12 => ?_) (fun c12 => ?_)
    · have H := H.1 c12
      obtain ⟨y4, ey4⟩ : ∃ z : Int, z = am_w (x3 + 1) := ⟨_, rfl⟩
      have H := H y4 ey4
      refine am_R.next (lv' := [some (.inr (.inr ((43 : Nat) : Int))), some (.inr (.inr ((t1 : Nat) : Int))), some (.inl x2), some (.inl y4)]) (st' := []) (h' := g2) (pc' := 81) ((hp 78).trans rfl) (by rw [ey4]; rfl) ?_
      refine am_R.next ((hp 81).trans rfl) rfl ?_
      exact H
    · have H := H.2 c12
      refine am_R.next ((hp 55).trans rfl) rfl ?_
      refine r_getR ((hp 56).trans rfl) (hw.o (i := 43) (by decide) rfl) (hw.r wr_43_0) ?_
      refine am_R.next ((hp 59).trans rfl) rfl ?_
      refine r_cv (bs := [.inl x3]) (st' := []) ((hp 60).trans rfl) (hw.o (i := 30) (by decide) rfl) rfl rfl (Nat.le_of_ble_eq_true rfl) (Nat.le_of_ble_eq_true rfl) (am_R.post H (fun v g5 hq => ?_))
      obtain ⟨r6, rfl, hw, H⟩ := hq
      change am_R _ _ _ _ _ [.inl r6] _ _
      refine r_if ((hp 63).trans rfl) (fun c11 => ?_) (fun c11 => ?_)
      · have H := H.1 c11
        obtain ⟨y7, ey7⟩ : ∃ z : Int, z = am_w (x3 + 1) := ⟨_, rfl⟩
        have H := H y7 ey7
        refine am_R.next (lv' := [some (.inr (.inr ((43 : Nat) : Int))), some (.inr (.inr ((t1 : Nat) : Int))), some (.inl x2), some (.inl y7)]) (st' := []) (h' := g5) (pc' := 81) ((hp 78).trans rfl) (by rw [ey7]; rfl) ?_
        refine am_R.next ((hp 81).trans rfl) rfl ?_
        exact H
      · have H := H.2 c11
        refine am_R.next ((hp 66).trans rfl) rfl ?_
        refine am_R.next ((hp 67).trans rfl) rfl ?_
        refine am_R.next ((hp 68).trans rfl) rfl ?_
        refine am_R.next ((hp 69).trans rfl) rfl ?_
        refine r_getR ((hp 70).trans rfl) (tr_o ht1 hw) (tr_h ht1 hw) ?_
        refine am_R.next ((hp 73).trans rfl) rfl ?_
        obtain ⟨c8, H⟩ := H
        refine r_lald ((hp 74).trans rfl) (tr_ha ht1 hw c8.1 c8.2) ?_
        refine r_cv (bs := [.inl x3, .inl x2, .inr (.inl (g5.2.2.2 (t1 + 1) x2.toNat))]) (st' := []) ((hp 75).trans rfl) (hw.o (i := 43) (by decide) rfl) rfl rfl (Nat.le_of_ble_eq_true rfl) (Nat.le_of_ble_eq_true rfl) (am_R.post H (fun v g9 hq => ?_))
        obtain ⟨rfl, hw, H⟩ := hq
        change am_R _ _ _ _ _ [] _ _
        obtain ⟨y10, ey10⟩ : ∃ z : Int, z = am_w (x3 + 1) := ⟨_, rfl⟩
        have H := H y10 ey10
        refine am_R.next (lv' := [some (.inr (.inr ((43 : Nat) : Int))), some (.inr (.inr ((t1 : Nat) : Int))), some (.inl x2), some (.inl y10)]) (st' := []) (h' := g9) (pc' := 81) ((hp 78).trans rfl) (by rw [ey10]; rfl) ?_
        refine am_R.next ((hp 81).trans rfl) rfl ?_
        exact H
theorem w_Tally_listen_100 {scr : Nat × (Nat → Int)} {d : Nat} {h : am_H} {Q : Option am_V → am_H → Prop} {x2 : Int} {t1 : Nat} (ht1 : t1 ∈ TR) (hs : am_sc scr) (hw : wf h) (H : (x2 < 0 → (Q none h)) ∧ (¬ (x2 < 0) → (am_R (am_prog scr) (d + 1) f_Tally_listen 106 [some (.inr (.inr ((43 : Nat) : Int))), some (.inr (.inr ((t1 : Nat) : Int))), some (.inl x2), some (.inl 0)] [] h Q))) : am_R (am_prog scr) (d + 1) f_Tally_listen 100 [some (.inr (.inr ((43 : Nat) : Int))), some (.inr (.inr ((t1 : Nat) : Int))), some (.inl x2), none] [] h Q := by
  have hp : ∀ k, (am_prog scr).1 f_Tally_listen k = c_Tally_listen k := fun _ => rfl
  refine am_R.next ((hp 100).trans rfl) rfl ?_
  refine r_if ((hp 101).trans rfl) (fun c1 => ?_) (fun c1 => ?_)
  · have H := H.1 c1
    exact am_R.ret ((hp 166).trans rfl) rfl H
  · have H := H.2 c1
    refine am_R.next ((hp 104).trans rfl) rfl ?_
    refine am_R.next (lv' := [some (.inr (.inr ((43 : Nat) : Int))), some (.inr (.inr ((t1 : Nat) : Int))), some (.inl x2), some (.inl 0)]) ((hp 105).trans rfl) rfl ?_
    exact H
theorem w_Tally_listen_106 {scr : Nat × (Nat → Int)} {d : Nat} {h : am_H} {Q : Option am_V → am_H → Prop} {x2 x3 : Int} {t1 : Nat} (ht1 : t1 ∈ TR) (hs : am_sc scr) (hw : wf h) (H : (¬ (x3 < 185) → (∀ y1 : Int, y1 = am_w (x2 + (-1)) → (am_R (am_prog scr) (d + 1) f_Tally_listen 100 [some (.inr (.inr ((43 : Nat) : Int))), some (.inr (.inr ((t1 : Nat) : Int))), some (.inl y1), none] [] h Q))) ∧ (x3 < 185 → (am_R (am_prog scr) d f_Tally_isMet 0 [some (.inr (.inr ((43 : Nat) : Int))), some (.inl x3), some (.inl x2)] [] h (fun v g2 => ∃ r3 : Int, v = some (.inl r3) ∧ wf g2 ∧ ((r3 = 0 → (∀ y4 : Int, y4 = am_w (x3 + 1) → (am_R (am_prog scr) (d + 1) f_Tally_listen 106 [some (.inr (.inr ((43 : Nat) : Int))), some (.inr (.inr ((t1 : Nat) : Int))), some (.inl x2), some (.inl y4)] [] g2 Q))) ∧ (¬ (r3 = 0) → ((0 ≤ x2 ∧ x2 < 9) ∧ ((¬ (x2 = (g2.2.2.2 t1 2)) → ((0 ≤ x2 ∧ x2 < 40) ∧ (am_R (am_prog scr) d f_Tally_fittingFrom 0 [some (.inr (.inr ((43 : Nat) : Int))), some (.inl x3), some (.inl x2), some (.inr (.inl (g2.2.2.2 (t1 + 1) x2.toNat))), none, none, none, none] [] g2 (fun v g7 => ∃ r8 : Int, v = some (.inr (.inl r8)) ∧ wf g7 ∧ (((0 ≤ x3 ∧ x3 < 185)) ∧ (∀ h10 : am_H, h10 = am_put g7 (48 + x2.toNat) x3.toNat r8 → (∀ y11 : Int, y11 = am_w (x3 + 1) → (am_R (am_prog scr) (d + 1) f_Tally_listen 106 [some (.inr (.inr ((43 : Nat) : Int))), some (.inr (.inr ((t1 : Nat) : Int))), some (.inl x2), some (.inl y11)] [] h10 Q)))))))) ∧ (x2 = (g2.2.2.2 t1 2) → (((0 ≤ x3 ∧ x3 < 185)) ∧ (∀ h13 : am_H, h13 = am_put g2 (48 + x2.toNat) x3.toNat 1 → (∀ y14 : Int, y14 = am_w (x3 + 1) → (am_R (am_prog scr) (d + 1) f_Tally_listen 106 [some (.inr (.inr ((43 : Nat) : Int))), some (.inr (.inr ((t1 : Nat) : Int))), some (.inl x2), some (.inl y14)] [] h13 Q))))))))))))) : am_R (am_prog scr) (d + 1) f_Tally_listen 106 [some (.inr (.inr ((43 : Nat) : Int))), some (.inr (.inr ((t1 : Nat) : Int))), some (.inl x2), some (.inl x3)] [] h Q := by
  have hp : ∀ k, (am_prog scr).1 f_Tally_listen k = c_Tally_listen k := fun _ => rfl
  refine am_R.next ((hp 106).trans rfl) rfl ?_
  refine am_R.next ((hp 107).trans rfl) rfl ?_
  refine r_ic ((hp 110).trans rfl) (fun c17 => ?_) (fun c17 => ?_)
  · have H := H.1 c17
    obtain ⟨y1, ey1⟩ : ∃ z : Int, z = am_w (x2 + (-1)) := ⟨_, rfl⟩
    have H := H y1 ey1
    refine am_R.next (lv' := [some (.inr (.inr ((43 : Nat) : Int))), some (.inr (.inr ((t1 : Nat) : Int))), some (.inl y1), some (.inl x3)]) (st' := []) (h' := h) (pc' := 163) ((hp 160).trans rfl) (by rw [ey1]; rfl) ?_
    refine am_R.next ((hp 163).trans rfl) rfl ?_
    exact r_le hs in_279 (le_k (le_k (le_k (le_d le_n)))) H
  · have H := H.2 (Decidable.not_not.mp c17)
    refine am_R.next ((hp 113).trans rfl) rfl ?_
    refine am_R.next ((hp 114).trans rfl) rfl ?_
    refine am_R.next ((hp 115).trans rfl) rfl ?_
    refine r_cv (bs := [.inl x3, .inl x2]) (st' := []) ((hp 116).trans rfl) (hw.o (i := 43) (by decide) rfl) rfl rfl (Nat.le_of_ble_eq_true rfl) (Nat.le_of_ble_eq_true rfl) (am_R.post H (fun v g2 hq => ?_))
    obtain ⟨r3, rfl, hw, H⟩ := hq
    change am_R _ _ _ _ _ [.inl r3] _ _
    refine r_if ((hp 119).trans rfl) (fun c16 => ?_) (fun c16 => ?_)
    · have H := H.1 c16
      obtain ⟨y4, ey4⟩ : ∃ z : Int, z = am_w (x3 + 1) := ⟨_, rfl⟩
      have H := H y4 ey4
      refine am_R.next (lv' := [some (.inr (.inr ((43 : Nat) : Int))), some (.inr (.inr ((t1 : Nat) : Int))), some (.inl x2), some (.inl y4)]) (st' := []) (h' := g2) (pc' := 157) ((hp 154).trans rfl) (by rw [ey4]; rfl) ?_
      refine am_R.next ((hp 157).trans rfl) rfl ?_
      exact H
    · have H := H.2 c16
      refine am_R.next ((hp 122).trans rfl) rfl ?_
      refine r_getR ((hp 123).trans rfl) (hw.o (i := 43) (by decide) rfl) (hw.r wr_43_4) ?_
      refine am_R.next ((hp 126).trans rfl) rfl ?_
      obtain ⟨c5, H⟩ := H
      refine r_aald ((hp 127).trans rfl) (hw.a (i := 47) (by decide) rfl c5.1 c5.2) (fit_all hw c5).1 ?_
      refine am_R.next ((hp 128).trans rfl) rfl ?_
      refine am_R.next ((hp 129).trans rfl) rfl ?_
      refine am_R.next ((hp 130).trans rfl) rfl ?_
      refine r_getI ((hp 131).trans rfl) (tr_o ht1 hw) ?_
      refine r_ic ((hp 134).trans rfl) (fun c15 => ?_) (fun c15 => ?_)
      · have H := H.1 c15
        refine am_R.next ((hp 141).trans rfl) rfl ?_
        refine am_R.next ((hp 142).trans rfl) rfl ?_
        refine am_R.next ((hp 143).trans rfl) rfl ?_
        refine am_R.next ((hp 144).trans rfl) rfl ?_
        refine r_getR ((hp 145).trans rfl) (tr_o ht1 hw) (tr_h ht1 hw) ?_
        refine am_R.next ((hp 148).trans rfl) rfl ?_
        obtain ⟨c6, H⟩ := H
        refine r_lald ((hp 149).trans rfl) (tr_ha ht1 hw c6.1 c6.2) ?_
        refine r_cv (bs := [.inl x3, .inl x2, .inr (.inl (g2.2.2.2 (t1 + 1) x2.toNat))]) (st' := [.inl x3, .inr (.inr ((48 + x2.toNat : Nat) : Int))]) ((hp 150).trans rfl) (hw.o (i := 43) (by decide) rfl) rfl rfl (Nat.le_of_ble_eq_true rfl) (Nat.le_of_ble_eq_true rfl) (am_R.post H (fun v g7 hq => ?_))
        obtain ⟨r8, rfl, hw, H⟩ := hq
        change am_R _ _ _ _ _ [.inr (.inl r8), .inl x3, .inr (.inr ((48 + x2.toNat : Nat) : Int))] _ _
        obtain ⟨c9, H⟩ := H
        obtain ⟨h10, eh10⟩ : ∃ z : am_H, z = am_put g7 (48 + x2.toNat) x3.toNat r8 := ⟨_, rfl⟩
        have H := H h10 eh10
        refine r_last ((hp 153).trans rfl) (hw.a (i := (48 + x2.toNat)) (fit_all hw c5).2.2.1 (fit_all hw c5).2.1 c9.1 c9.2) ?_
        have hw : wf h10 := by rw [eh10]; exact hw.pa (fit_all hw c5).2.2.2
        change am_R _ _ _ _ _ _ (am_put g7 (48 + x2.toNat) x3.toNat r8) _
        rw [← eh10]
        obtain ⟨y11, ey11⟩ : ∃ z : Int, z = am_w (x3 + 1) := ⟨_, rfl⟩
        have H := H y11 ey11
        refine am_R.next (lv' := [some (.inr (.inr ((43 : Nat) : Int))), some (.inr (.inr ((t1 : Nat) : Int))), some (.inl x2), some (.inl y11)]) (st' := []) (h' := h10) (pc' := 157) ((hp 154).trans rfl) (by rw [ey11]; rfl) ?_
        refine am_R.next ((hp 157).trans rfl) rfl ?_
        exact H
      · have H := H.2 (Decidable.not_not.mp c15)
        refine am_R.next ((hp 137).trans rfl) rfl ?_
        refine am_R.next ((hp 138).trans rfl) rfl ?_
        obtain ⟨c12, H⟩ := H
        obtain ⟨h13, eh13⟩ : ∃ z : am_H, z = am_put g2 (48 + x2.toNat) x3.toNat 1 := ⟨_, rfl⟩
        have H := H h13 eh13
        refine r_last ((hp 153).trans rfl) (hw.a (i := (48 + x2.toNat)) (fit_all hw c5).2.2.1 (fit_all hw c5).2.1 c12.1 c12.2) ?_
        have hw : wf h13 := by rw [eh13]; exact hw.pa (fit_all hw c5).2.2.2
        change am_R _ _ _ _ _ _ (am_put g2 (48 + x2.toNat) x3.toNat 1) _
        rw [← eh13]
        obtain ⟨y14, ey14⟩ : ∃ z : Int, z = am_w (x3 + 1) := ⟨_, rfl⟩
        have H := H y14 ey14
        refine am_R.next (lv' := [some (.inr (.inr ((43 : Nat) : Int))), some (.inr (.inr ((t1 : Nat) : Int))), some (.inl x2), some (.inl y14)]) (st' := []) (h' := h13) (pc' := 157) ((hp 154).trans rfl) (by rw [ey14]; rfl) ?_
        refine am_R.next ((hp 157).trans rfl) rfl ?_
        exact H
theorem w_Tally_meetFrom_0 {scr : Nat × (Nat → Int)} {d : Nat} {h : am_H} {Q : Option am_V → am_H → Prop} {x1 x2 x3 : Int} (hs : am_sc scr) (hw : wf h) (H : am_R (am_prog scr) (d + 1) f_Tally_meetFrom 3 [some (.inr (.inr ((43 : Nat) : Int))), some (.inl x1), some (.inl x2), some (.inr (.inl x3)), none, some (.inl 0), none] [] h Q) : am_R (am_prog scr) (d + 1) f_Tally_meetFrom 0 [some (.inr (.inr ((43 : Nat) : Int))), some (.inl x1), some (.inl x2), some (.inr (.inl x3)), none, none, none] [] h Q := by
  have hp : ∀ k, (am_prog scr).1 f_Tally_meetFrom k = c_Tally_meetFrom k := fun _ => rfl
  refine am_R.next ((hp 0).trans rfl) rfl ?_
  refine am_R.next (lv' := [some (.inr (.inr ((43 : Nat) : Int))), some (.inl x1), some (.inl x2), some (.inr (.inl x3)), none, some (.inl 0), none]) ((hp 1).trans rfl) rfl ?_
  exact H
theorem w_Tally_meetFrom_3 {scr : Nat × (Nat → Int)} {d : Nat} {h : am_H} {Q : Option am_V → am_H → Prop} {x1 x2 x3 x5 : Int} (hs : am_sc scr) (hw : wf h) (H : am_R (am_prog scr) d f_Graph_sleepers 0 [some (.inr (.inr ((30 : Nat) : Int)))] [] h (fun v g1 => ∃ r2 : Int, v = some (.inl r2) ∧ wf g1 ∧ ((r2 < x5 → (Q none g1)) ∧ (¬ (r2 < x5) → (am_R (am_prog scr) d f_Graph_after 0 [some (.inr (.inr ((30 : Nat) : Int))), some (.inl x1), some (.inl x5), none] [] g1 (fun v g3 => ∃ r4 : Int, v = some (.inl r4) ∧ wf g3 ∧ (am_R (am_prog scr) d f_Tally_fits 0 [some (.inr (.inr ((43 : Nat) : Int))), some (.inl r4), some (.inr (.inl x3)), none] [] g3 (fun v g5 => ∃ r6 : Int, v = some (.inl r6) ∧ wf g5 ∧ ((r6 = 0 → (∀ y7 : Int, y7 = am_w (x5 + 1) → (am_R (am_prog scr) (d + 1) f_Tally_meetFrom 3 [some (.inr (.inr ((43 : Nat) : Int))), some (.inl x1), some (.inl x2), some (.inr (.inl x3)), none, some (.inl y7), none] [] g5 Q))) ∧ (¬ (r6 = 0) → ((0 ≤ r4 ∧ r4 < 185) ∧ (((0 ≤ r4 ∧ r4 < 185)) ∧ (∀ h10 : am_H, h10 = am_put g5 46 r4.toNat (am_or (g5.2.2.2 46 r4.toNat) (am_shl 1 (am_w (x2 + 1)))) → (∀ y11 : Int, y11 = am_w (x5 + 1) → (am_R (am_prog scr) (d + 1) f_Tally_meetFrom 3 [some (.inr (.inr ((43 : Nat) : Int))), some (.inl x1), some (.inl x2), some (.inr (.inl x3)), none, some (.inl y11), none] [] h10 Q))))))))))))))) : am_R (am_prog scr) (d + 1) f_Tally_meetFrom 3 [some (.inr (.inr ((43 : Nat) : Int))), some (.inl x1), some (.inl x2), some (.inr (.inl x3)), none, some (.inl x5), none] [] h Q := by
  have hp : ∀ k, (am_prog scr).1 f_Tally_meetFrom k = c_Tally_meetFrom k := fun _ => rfl
  refine am_R.next ((hp 3).trans rfl) rfl ?_
  refine am_R.next ((hp 5).trans rfl) rfl ?_
  refine r_getR ((hp 6).trans rfl) (hw.o (i := 43) (by decide) rfl) (hw.r wr_43_0) ?_
  refine r_cv (bs := []) (st' := [.inl x5]) ((hp 9).trans rfl) (hw.o (i := 30) (by decide) rfl) rfl rfl (Nat.le_of_ble_eq_true rfl) (Nat.le_of_ble_eq_true rfl) (am_R.post H (fun v g1 hq => ?_))
  obtain ⟨r2, rfl, hw, H⟩ := hq
  change am_R _ _ _ _ _ [.inl r2, .inl x5] _ _
  refine r_ic ((hp 12).trans rfl) (fun c13 => ?_) (fun c13 => ?_)
  · have H := H.1 c13
    exact am_R.ret ((hp 58).trans rfl) rfl H
  · have H := H.2 c13
    refine am_R.next ((hp 15).trans rfl) rfl ?_
    refine r_getR ((hp 16).trans rfl) (hw.o (i := 43) (by decide) rfl) (hw.r wr_43_0) ?_
    refine am_R.next ((hp 19).trans rfl) rfl ?_
    refine am_R.next ((hp 20).trans rfl) rfl ?_
    refine r_cv (bs := [.inl x1, .inl x5]) (st' := []) ((hp 22).trans rfl) (hw.o (i := 30) (by decide) rfl) rfl rfl (Nat.le_of_ble_eq_true rfl) (Nat.le_of_ble_eq_true rfl) (am_R.post H (fun v g3 hq => ?_))
    obtain ⟨r4, rfl, hw, H⟩ := hq
    change am_R _ _ _ _ _ [.inl r4] _ _
    refine am_R.next (lv' := [some (.inr (.inr ((43 : Nat) : Int))), some (.inl x1), some (.inl x2), some (.inr (.inl x3)), none, some (.inl x5), some (.inl r4)]) ((hp 25).trans rfl) rfl ?_
    refine am_R.next ((hp 27).trans rfl) rfl ?_
    refine am_R.next ((hp 28).trans rfl) rfl ?_
    refine am_R.next ((hp 30).trans rfl) rfl ?_
    refine r_cv (bs := [.inl r4, .inr (.inl x3)]) (st' := []) ((hp 31).trans rfl) (hw.o (i := 43) (by decide) rfl) rfl rfl (Nat.le_of_ble_eq_true rfl) (Nat.le_of_ble_eq_true rfl) (am_R.post H (fun v g5 hq => ?_))
    obtain ⟨r6, rfl, hw, H⟩ := hq
    change am_R _ _ _ _ _ [.inl r6] _ _
    refine r_if ((hp 34).trans rfl) (fun c12 => ?_) (fun c12 => ?_)
    · have H := H.1 c12
      obtain ⟨y7, ey7⟩ : ∃ z : Int, z = am_w (x5 + 1) := ⟨_, rfl⟩
      have H := H y7 ey7
      refine am_R.next (lv' := [some (.inr (.inr ((43 : Nat) : Int))), some (.inl x1), some (.inl x2), some (.inr (.inl x3)), none, some (.inl y7), some (.inl r4)]) (st' := []) (h' := g5) (pc' := 55) ((hp 52).trans rfl) (by rw [ey7]; rfl) ?_
      refine am_R.next ((hp 55).trans rfl) rfl ?_
      exact r_le hs in_280 (le_k (le_k (le_k (le_k (le_k (le_k (le_d le_n))))))) H
    · have H := H.2 c12
      refine am_R.next ((hp 37).trans rfl) rfl ?_
      refine r_getR ((hp 38).trans rfl) (hw.o (i := 43) (by decide) rfl) (hw.r wr_43_3) ?_
      refine am_R.next ((hp 41).trans rfl) rfl ?_
      refine am_R.next ((hp 43).trans rfl) rfl ?_
      obtain ⟨c8, H⟩ := H
      refine r_iald ((hp 44).trans rfl) (hw.a (i := 46) (by decide) rfl c8.1 c8.2) ?_
      refine am_R.next ((hp 45).trans rfl) rfl ?_
      refine am_R.next ((hp 46).trans rfl) rfl ?_
      refine am_R.next ((hp 47).trans rfl) rfl ?_
      refine am_R.next ((hp 48).trans rfl) rfl ?_
      refine am_R.next ((hp 49).trans rfl) rfl ?_
      refine am_R.next ((hp 50).trans rfl) rfl ?_
      obtain ⟨c9, H⟩ := H
      obtain ⟨h10, eh10⟩ : ∃ z : am_H, z = am_put g5 46 r4.toNat (am_or (g5.2.2.2 46 r4.toNat) (am_shl 1 (am_w (x2 + 1)))) := ⟨_, rfl⟩
      have H := H h10 eh10
      refine r_iast ((hp 51).trans rfl) (hw.a (i := 46) (by decide) rfl c9.1 c9.2) ?_
      have hw : wf h10 := by rw [eh10]; exact hw.pa na_46
      change am_R _ _ _ _ _ _ (am_put g5 46 r4.toNat (am_or (g5.2.2.2 46 r4.toNat) (am_shl 1 (am_w (x2 + 1))))) _
      rw [← eh10]
      obtain ⟨y11, ey11⟩ : ∃ z : Int, z = am_w (x5 + 1) := ⟨_, rfl⟩
      have H := H y11 ey11
      refine am_R.next (lv' := [some (.inr (.inr ((43 : Nat) : Int))), some (.inl x1), some (.inl x2), some (.inr (.inl x3)), none, some (.inl y11), some (.inl r4)]) (st' := []) (h' := h10) (pc' := 55) ((hp 52).trans rfl) (by rw [ey11]; rfl) ?_
      refine am_R.next ((hp 55).trans rfl) rfl ?_
      exact r_le hs in_280 (le_k (le_k (le_k (le_k (le_k (le_k (le_d le_n))))))) H
theorem w_Tally_fittingFrom_0 {scr : Nat × (Nat → Int)} {d : Nat} {h : am_H} {Q : Option am_V → am_H → Prop} {x1 x2 x3 : Int} (hs : am_sc scr) (hw : wf h) (H : am_R (am_prog scr) (d + 1) f_Tally_fittingFrom 6 [some (.inr (.inr ((43 : Nat) : Int))), some (.inl x1), some (.inl x2), some (.inr (.inl x3)), none, some (.inr (.inl 0)), none, some (.inl 0)] [] h Q) : am_R (am_prog scr) (d + 1) f_Tally_fittingFrom 0 [some (.inr (.inr ((43 : Nat) : Int))), some (.inl x1), some (.inl x2), some (.inr (.inl x3)), none, none, none, none] [] h Q := by
  have hp : ∀ k, (am_prog scr).1 f_Tally_fittingFrom k = c_Tally_fittingFrom k := fun _ => rfl
  refine am_R.next ((hp 0).trans rfl) rfl ?_
  refine am_R.next (lv' := [some (.inr (.inr ((43 : Nat) : Int))), some (.inl x1), some (.inl x2), some (.inr (.inl x3)), none, some (.inr (.inl 0)), none, none]) ((hp 1).trans rfl) rfl ?_
  refine am_R.next ((hp 3).trans rfl) rfl ?_
  refine am_R.next (lv' := [some (.inr (.inr ((43 : Nat) : Int))), some (.inl x1), some (.inl x2), some (.inr (.inl x3)), none, some (.inr (.inl 0)), none, some (.inl 0)]) ((hp 4).trans rfl) rfl ?_
  exact H
theorem w_Tally_fittingFrom_6 {scr : Nat × (Nat → Int)} {d : Nat} {h : am_H} {Q : Option am_V → am_H → Prop} {x1 x2 x3 x5 x7 : Int} (hs : am_sc scr) (hw : wf h) (H : am_R (am_prog scr) d f_Graph_goesOn 0 [some (.inr (.inr ((30 : Nat) : Int))), some (.inl x1)] [] h (fun v g1 => ∃ r2 : Int, v = some (.inl r2) ∧ wf g1 ∧ ((r2 = 0 → (Q (some (.inr (.inl x5))) g1)) ∧ (¬ (r2 = 0) → (am_R (am_prog scr) d f_Graph_sleepers 0 [some (.inr (.inr ((30 : Nat) : Int)))] [] g1 (fun v g3 => ∃ r4 : Int, v = some (.inl r4) ∧ wf g3 ∧ ((r4 < x7 → (Q (some (.inr (.inl x5))) g3)) ∧ (¬ (r4 < x7) → (am_R (am_prog scr) d f_Graph_after 0 [some (.inr (.inr ((30 : Nat) : Int))), some (.inl x1), some (.inl x7), none] [] g3 (fun v g5 => ∃ r6 : Int, v = some (.inl r6) ∧ wf g5 ∧ (am_R (am_prog scr) d f_Tally_fittingBehind 0 [some (.inr (.inr ((43 : Nat) : Int))), some (.inl r6), some (.inl x2), some (.inr (.inl x3)), none] [] g5 (fun v g7 => ∃ r8 : Int, v = some (.inr (.inl r8)) ∧ wf g7 ∧ (∀ y9 : Int, y9 = am_W (x5 + r8) → (∀ y10 : Int, y10 = am_w (x7 + 1) → (am_R (am_prog scr) (d + 1) f_Tally_fittingFrom 6 [some (.inr (.inr ((43 : Nat) : Int))), some (.inl x1), some (.inl x2), some (.inr (.inl x3)), none, some (.inr (.inl y9)), none, some (.inl y10)] [] g7 Q))))))))))))))) : am_R (am_prog scr) (d + 1) f_Tally_fittingFrom 6 [some (.inr (.inr ((43 : Nat) : Int))), some (.inl x1), some (.inl x2), some (.inr (.inl x3)), none, some (.inr (.inl x5)), none, some (.inl x7)] [] h Q := by
  have hp : ∀ k, (am_prog scr).1 f_Tally_fittingFrom k = c_Tally_fittingFrom k := fun _ => rfl
  refine am_R.next ((hp 6).trans rfl) rfl ?_
  refine r_getR ((hp 7).trans rfl) (hw.o (i := 43) (by decide) rfl) (hw.r wr_43_0) ?_
  refine am_R.next ((hp 10).trans rfl) rfl ?_
  refine r_cv (bs := [.inl x1]) (st' := []) ((hp 11).trans rfl) (hw.o (i := 30) (by decide) rfl) rfl rfl (Nat.le_of_ble_eq_true rfl) (Nat.le_of_ble_eq_true rfl) (am_R.post H (fun v g1 hq => ?_))
  obtain ⟨r2, rfl, hw, H⟩ := hq
  change am_R _ _ _ _ _ [.inl r2] _ _
  refine r_if ((hp 14).trans rfl) (fun c12 => ?_) (fun c12 => ?_)
  · have H := H.1 c12
    refine am_R.next ((hp 56).trans rfl) rfl ?_
    exact am_R.ret ((hp 58).trans rfl) rfl H
  · have H := H.2 c12
    refine am_R.next ((hp 17).trans rfl) rfl ?_
    refine am_R.next ((hp 19).trans rfl) rfl ?_
    refine r_getR ((hp 20).trans rfl) (hw.o (i := 43) (by decide) rfl) (hw.r wr_43_0) ?_
    refine r_cv (bs := []) (st' := [.inl x7]) ((hp 23).trans rfl) (hw.o (i := 30) (by decide) rfl) rfl rfl (Nat.le_of_ble_eq_true rfl) (Nat.le_of_ble_eq_true rfl) (am_R.post H (fun v g3 hq => ?_))
    obtain ⟨r4, rfl, hw, H⟩ := hq
    change am_R _ _ _ _ _ [.inl r4, .inl x7] _ _
    refine r_ic ((hp 26).trans rfl) (fun c11 => ?_) (fun c11 => ?_)
    · have H := H.1 c11
      refine am_R.next ((hp 56).trans rfl) rfl ?_
      exact am_R.ret ((hp 58).trans rfl) rfl H
    · have H := H.2 c11
      refine am_R.next ((hp 29).trans rfl) rfl ?_
      refine am_R.next ((hp 31).trans rfl) rfl ?_
      refine am_R.next ((hp 32).trans rfl) rfl ?_
      refine r_getR ((hp 33).trans rfl) (hw.o (i := 43) (by decide) rfl) (hw.r wr_43_0) ?_
      refine am_R.next ((hp 36).trans rfl) rfl ?_
      refine am_R.next ((hp 37).trans rfl) rfl ?_
      refine r_cv (bs := [.inl x1, .inl x7]) (st' := [.inr (.inr ((43 : Nat) : Int)), .inr (.inl x5)]) ((hp 39).trans rfl) (hw.o (i := 30) (by decide) rfl) rfl rfl (Nat.le_of_ble_eq_true rfl) (Nat.le_of_ble_eq_true rfl) (am_R.post H (fun v g5 hq => ?_))
      obtain ⟨r6, rfl, hw, H⟩ := hq
      change am_R _ _ _ _ _ [.inl r6, .inr (.inr ((43 : Nat) : Int)), .inr (.inl x5)] _ _
      refine am_R.next ((hp 42).trans rfl) rfl ?_
      refine am_R.next ((hp 43).trans rfl) rfl ?_
      refine r_cv (bs := [.inl r6, .inl x2, .inr (.inl x3)]) (st' := [.inr (.inl x5)]) ((hp 44).trans rfl) (hw.o (i := 43) (by decide) rfl) rfl rfl (Nat.le_of_ble_eq_true rfl) (Nat.le_of_ble_eq_true rfl) (am_R.post H (fun v g7 hq => ?_))
      obtain ⟨r8, rfl, hw, H⟩ := hq
      change am_R _ _ _ _ _ [.inr (.inl r8), .inr (.inl x5)] _ _
      refine am_R.next ((hp 47).trans rfl) rfl ?_
      obtain ⟨y9, ey9⟩ : ∃ z : Int, z = am_W (x5 + r8) := ⟨_, rfl⟩
      have H := H y9 ey9
      refine am_R.next (lv' := [some (.inr (.inr ((43 : Nat) : Int))), some (.inl x1), some (.inl x2), some (.inr (.inl x3)), none, some (.inr (.inl y9)), none, some (.inl x7)]) (st' := []) (h' := g7) (pc' := 50) ((hp 48).trans rfl) (by rw [ey9]; rfl) ?_
      obtain ⟨y10, ey10⟩ : ∃ z : Int, z = am_w (x7 + 1) := ⟨_, rfl⟩
      have H := H y10 ey10
      refine am_R.next (lv' := [some (.inr (.inr ((43 : Nat) : Int))), some (.inl x1), some (.inl x2), some (.inr (.inl x3)), none, some (.inr (.inl y9)), none, some (.inl y10)]) (st' := []) (h' := g7) (pc' := 53) ((hp 50).trans rfl) (by rw [ey10]; rfl) ?_
      refine am_R.next ((hp 53).trans rfl) rfl ?_
      exact H
theorem w_Tally_fittingBehind_0 {scr : Nat × (Nat → Int)} {d : Nat} {h : am_H} {Q : Option am_V → am_H → Prop} {x1 x2 x3 : Int} (hs : am_sc scr) (hw : wf h) (H : am_R (am_prog scr) d f_Tally_fits 0 [some (.inr (.inr ((43 : Nat) : Int))), some (.inl x1), some (.inr (.inl x3)), none] [] h (fun v g1 => ∃ r2 : Int, v = some (.inl r2) ∧ wf g1 ∧ ((r2 = 0 → (Q (some (.inr (.inl 0))) g1)) ∧ (¬ (r2 = 0) → ((0 ≤ (am_w (x2 + 1)) ∧ (am_w (x2 + 1)) < 9) ∧ ((0 ≤ x1 ∧ x1 < 185) ∧ (Q (some (.inr (.inl (g1.2.2.2 (48 + (am_w (x2 + 1)).toNat) x1.toNat)))) g1))))))) : am_R (am_prog scr) (d + 1) f_Tally_fittingBehind 0 [some (.inr (.inr ((43 : Nat) : Int))), some (.inl x1), some (.inl x2), some (.inr (.inl x3)), none] [] h Q := by
  have hp : ∀ k, (am_prog scr).1 f_Tally_fittingBehind k = c_Tally_fittingBehind k := fun _ => rfl
  refine am_R.next ((hp 0).trans rfl) rfl ?_
  refine am_R.next ((hp 1).trans rfl) rfl ?_
  refine am_R.next ((hp 2).trans rfl) rfl ?_
  refine r_cv (bs := [.inl x1, .inr (.inl x3)]) (st' := []) ((hp 3).trans rfl) (hw.o (i := 43) (by decide) rfl) rfl rfl (Nat.le_of_ble_eq_true rfl) (Nat.le_of_ble_eq_true rfl) (am_R.post H (fun v g1 hq => ?_))
  obtain ⟨r2, rfl, hw, H⟩ := hq
  change am_R _ _ _ _ _ [.inl r2] _ _
  refine r_if ((hp 6).trans rfl) (fun c5 => ?_) (fun c5 => ?_)
  · have H := H.1 c5
    refine am_R.next ((hp 22).trans rfl) rfl ?_
    exact am_R.ret ((hp 23).trans rfl) rfl H
  · have H := H.2 c5
    refine am_R.next ((hp 9).trans rfl) rfl ?_
    refine r_getR ((hp 10).trans rfl) (hw.o (i := 43) (by decide) rfl) (hw.r wr_43_4) ?_
    refine am_R.next ((hp 13).trans rfl) rfl ?_
    refine am_R.next ((hp 14).trans rfl) rfl ?_
    refine am_R.next ((hp 15).trans rfl) rfl ?_
    obtain ⟨c3, H⟩ := H
    refine r_aald ((hp 16).trans rfl) (hw.a (i := 47) (by decide) rfl c3.1 c3.2) (fit_all hw c3).1 ?_
    refine am_R.next ((hp 17).trans rfl) rfl ?_
    obtain ⟨c4, H⟩ := H
    refine r_lald ((hp 18).trans rfl) (hw.a (i := (48 + (am_w (x2 + 1)).toNat)) (fit_all hw c3).2.2.1 (fit_all hw c3).2.1 c4.1 c4.2) ?_
    refine am_R.next ((hp 19).trans rfl) rfl ?_
    exact am_R.ret ((hp 23).trans rfl) rfl H
theorem w_Tally_heardRows_0 {scr : Nat × (Nat → Int)} {d : Nat} {h : am_H} {Q : Option am_V → am_H → Prop} (hs : am_sc scr) (hw : wf h) (H : (0 ≤ (h.2.2.2 30 5) ∧ (h.2.2.2 30 5) < 185) ∧ (Q (some (.inr (.inl (h.2.2.2 48 ((h.2.2.2 30 5).toNat))))) h)) : am_R (am_prog scr) d f_Tally_heardRows 0 [some (.inr (.inr ((43 : Nat) : Int)))] [] h Q := by
  have hp : ∀ k, (am_prog scr).1 f_Tally_heardRows k = c_Tally_heardRows k := fun _ => rfl
  refine am_R.next ((hp 0).trans rfl) rfl ?_
  refine r_getR ((hp 1).trans rfl) (hw.o (i := 43) (by decide) rfl) (hw.r wr_43_4) ?_
  refine am_R.next ((hp 4).trans rfl) rfl ?_
  refine r_aald ((hp 5).trans rfl) (hw.a (i := 47) (by decide) rfl (by decide) (by decide)) (hw.r wr_47_0) ?_
  refine am_R.next ((hp 6).trans rfl) rfl ?_
  refine r_getR ((hp 7).trans rfl) (hw.o (i := 43) (by decide) rfl) (hw.r wr_43_0) ?_
  refine r_getI ((hp 10).trans rfl) (hw.o (i := 30) (by decide) rfl) ?_
  obtain ⟨c1, H⟩ := H
  refine r_lald ((hp 13).trans rfl) (hw.a (i := 48) (by decide) rfl c1.1 c1.2) ?_
  exact am_R.ret ((hp 14).trans rfl) rfl H
theorem w_Tally_firstHeardDeed_0 {scr : Nat × (Nat → Int)} {d : Nat} {h : am_H} {Q : Option am_V → am_H → Prop} {x2 : Int} {t1 : Nat} (ht1 : t1 ∈ TR) (hs : am_sc scr) (hw : wf h) (H : (¬ (x2 < (h.2.2.2 t1 2)) → (Q (some (.inl (-1))) h)) ∧ (x2 < (h.2.2.2 t1 2) → (am_R (am_prog scr) d f_Tally_heardRows 0 [some (.inr (.inr ((43 : Nat) : Int)))] [] h (fun v g1 => ∃ r2 : Int, v = some (.inr (.inl r2)) ∧ wf g1 ∧ ((¬ (r2 = 0) → (∀ y3 : Int, y3 = g1.2.2.2 30 5 → (am_R (am_prog scr) (d + 1) f_Tally_firstHeardDeed 30 [some (.inr (.inr ((43 : Nat) : Int))), some (.inr (.inr ((t1 : Nat) : Int))), some (.inl x2), some (.inl y3), some (.inl 0)] [] g1 Q))) ∧ (r2 = 0 → (Q (some (.inl (-1))) g1))))))) : am_R (am_prog scr) (d + 1) f_Tally_firstHeardDeed 0 [some (.inr (.inr ((43 : Nat) : Int))), some (.inr (.inr ((t1 : Nat) : Int))), some (.inl x2), none, none] [] h Q := by
  have hp : ∀ k, (am_prog scr).1 f_Tally_firstHeardDeed k = c_Tally_firstHeardDeed k := fun _ => rfl
  refine am_R.next ((hp 0).trans rfl) rfl ?_
  refine am_R.next ((hp 1).trans rfl) rfl ?_
  refine r_getI ((hp 2).trans rfl) (tr_o ht1 hw) ?_
  refine r_ic ((hp 5).trans rfl) (fun c5 => ?_) (fun c5 => ?_)
  · have H := H.1 c5
    refine am_R.next ((hp 17).trans rfl) rfl ?_
    exact am_R.ret ((hp 18).trans rfl) rfl H
  · have H := H.2 (Decidable.not_not.mp c5)
    refine am_R.next ((hp 8).trans rfl) rfl ?_
    refine r_cv (bs := []) (st' := []) ((hp 9).trans rfl) (hw.o (i := 43) (by decide) rfl) rfl rfl (Nat.le_of_ble_eq_true rfl) (Nat.le_of_ble_eq_true rfl) (am_R.post H (fun v g1 hq => ?_))
    obtain ⟨r2, rfl, hw, H⟩ := hq
    change am_R _ _ _ _ _ [.inr (.inl r2)] _ _
    refine am_R.next ((hp 12).trans rfl) rfl ?_
    refine am_R.next ((hp 13).trans rfl) rfl ?_
    refine r_if ((hp 14).trans rfl) (fun c4 => ?_) (fun c4 => ?_)
    · have H := H.1 (lc_net c4)
      refine am_R.next ((hp 19).trans rfl) rfl ?_
      refine r_getR ((hp 20).trans rfl) (hw.o (i := 43) (by decide) rfl) (hw.r wr_43_0) ?_
      refine r_getI ((hp 23).trans rfl) (hw.o (i := 30) (by decide) rfl) ?_
      obtain ⟨y3, ey3⟩ : ∃ z : Int, z = g1.2.2.2 30 5 := ⟨_, rfl⟩
      have H := H y3 ey3
      refine am_R.next (lv' := [some (.inr (.inr ((43 : Nat) : Int))), some (.inr (.inr ((t1 : Nat) : Int))), some (.inl x2), some (.inl y3), none]) (st' := []) (h' := g1) (pc' := 27) ((hp 26).trans rfl) (by rw [ey3]; rfl) ?_
      refine am_R.next ((hp 27).trans rfl) rfl ?_
      refine am_R.next (lv' := [some (.inr (.inr ((43 : Nat) : Int))), some (.inr (.inr ((t1 : Nat) : Int))), some (.inl x2), some (.inl y3), some (.inl 0)]) ((hp 28).trans rfl) rfl ?_
      exact H
    · have H := H.2 (lc_nef c4)
      refine am_R.next ((hp 17).trans rfl) rfl ?_
      exact am_R.ret ((hp 18).trans rfl) rfl H
theorem w_Tally_firstHeardDeed_30 {scr : Nat × (Nat → Int)} {d : Nat} {h : am_H} {Q : Option am_V → am_H → Prop} {x2 x3 x4 : Int} {t1 : Nat} (ht1 : t1 ∈ TR) (hs : am_sc scr) (hw : wf h) (H : (¬ (x4 < x2) → ((0 ≤ x2 ∧ x2 < 40) ∧ (am_R (am_prog scr) d f_Tally_fittingDeed 0 [some (.inr (.inr ((43 : Nat) : Int))), some (.inl x3), some (.inl x2), some (.inr (.inl (h.2.2.2 (t1 + 1) x2.toNat))), none, none] [] h (fun v g2 => ∃ r3 : Int, v = some (.inl r3) ∧ wf g2 ∧ (Q (some (.inl r3)) g2))))) ∧ (x4 < x2 → ((0 ≤ x4 ∧ x4 < 40) ∧ (am_R (am_prog scr) d f_Tally_fittingDeed 0 [some (.inr (.inr ((43 : Nat) : Int))), some (.inl x3), some (.inl x4), some (.inr (.inl (h.2.2.2 (t1 + 1) x4.toNat))), none, none] [] h (fun v g5 => ∃ r6 : Int, v = some (.inl r6) ∧ wf g5 ∧ (am_R (am_prog scr) d f_Graph_after 0 [some (.inr (.inr ((30 : Nat) : Int))), some (.inl x3), some (.inl r6), none] [] g5 (fun v g7 => ∃ r8 : Int, v = some (.inl r8) ∧ wf g7 ∧ (∀ y9 : Int, y9 = am_w (x4 + 1) → (am_R (am_prog scr) (d + 1) f_Tally_firstHeardDeed 30 [some (.inr (.inr ((43 : Nat) : Int))), some (.inr (.inr ((t1 : Nat) : Int))), some (.inl x2), some (.inl r8), some (.inl y9)] [] g7 Q))))))))) : am_R (am_prog scr) (d + 1) f_Tally_firstHeardDeed 30 [some (.inr (.inr ((43 : Nat) : Int))), some (.inr (.inr ((t1 : Nat) : Int))), some (.inl x2), some (.inl x3), some (.inl x4)] [] h Q := by
  have hp : ∀ k, (am_prog scr).1 f_Tally_firstHeardDeed k = c_Tally_firstHeardDeed k := fun _ => rfl
  refine am_R.next ((hp 30).trans rfl) rfl ?_
  refine am_R.next ((hp 32).trans rfl) rfl ?_
  refine r_ic ((hp 33).trans rfl) (fun c10 => ?_) (fun c10 => ?_)
  · have H := H.1 c10
    refine am_R.next ((hp 65).trans rfl) rfl ?_
    refine am_R.next ((hp 66).trans rfl) rfl ?_
    refine am_R.next ((hp 67).trans rfl) rfl ?_
    refine am_R.next ((hp 68).trans rfl) rfl ?_
    refine r_getR ((hp 69).trans rfl) (tr_o ht1 hw) (tr_h ht1 hw) ?_
    refine am_R.next ((hp 72).trans rfl) rfl ?_
    obtain ⟨c1, H⟩ := H
    refine r_lald ((hp 73).trans rfl) (tr_ha ht1 hw c1.1 c1.2) ?_
    refine r_cv (bs := [.inl x3, .inl x2, .inr (.inl (h.2.2.2 (t1 + 1) x2.toNat))]) (st' := []) ((hp 74).trans rfl) (hw.o (i := 43) (by decide) rfl) rfl rfl (Nat.le_of_ble_eq_true rfl) (Nat.le_of_ble_eq_true rfl) (am_R.post H (fun v g2 hq => ?_))
    obtain ⟨r3, rfl, hw, H⟩ := hq
    change am_R _ _ _ _ _ [.inl r3] _ _
    exact am_R.ret ((hp 77).trans rfl) rfl H
  · have H := H.2 (Decidable.not_not.mp c10)
    refine am_R.next ((hp 36).trans rfl) rfl ?_
    refine r_getR ((hp 37).trans rfl) (hw.o (i := 43) (by decide) rfl) (hw.r wr_43_0) ?_
    refine am_R.next ((hp 40).trans rfl) rfl ?_
    refine am_R.next ((hp 41).trans rfl) rfl ?_
    refine am_R.next ((hp 42).trans rfl) rfl ?_
    refine am_R.next ((hp 43).trans rfl) rfl ?_
    refine am_R.next ((hp 45).trans rfl) rfl ?_
    refine r_getR ((hp 46).trans rfl) (tr_o ht1 hw) (tr_h ht1 hw) ?_
    refine am_R.next ((hp 49).trans rfl) rfl ?_
    obtain ⟨c4, H⟩ := H
    refine r_lald ((hp 51).trans rfl) (tr_ha ht1 hw c4.1 c4.2) ?_
    refine r_cv (bs := [.inl x3, .inl x4, .inr (.inl (h.2.2.2 (t1 + 1) x4.toNat))]) (st' := [.inl x3, .inr (.inr ((30 : Nat) : Int))]) ((hp 52).trans rfl) (hw.o (i := 43) (by decide) rfl) rfl rfl (Nat.le_of_ble_eq_true rfl) (Nat.le_of_ble_eq_true rfl) (am_R.post H (fun v g5 hq => ?_))
    obtain ⟨r6, rfl, hw, H⟩ := hq
    change am_R _ _ _ _ _ [.inl r6, .inl x3, .inr (.inr ((30 : Nat) : Int))] _ _
    refine r_cv (bs := [.inl x3, .inl r6]) (st' := []) ((hp 55).trans rfl) (hw.o (i := 30) (by decide) rfl) rfl rfl (Nat.le_of_ble_eq_true rfl) (Nat.le_of_ble_eq_true rfl) (am_R.post H (fun v g7 hq => ?_))
    obtain ⟨r8, rfl, hw, H⟩ := hq
    change am_R _ _ _ _ _ [.inl r8] _ _
    refine am_R.next (lv' := [some (.inr (.inr ((43 : Nat) : Int))), some (.inr (.inr ((t1 : Nat) : Int))), some (.inl x2), some (.inl r8), some (.inl x4)]) ((hp 58).trans rfl) rfl ?_
    obtain ⟨y9, ey9⟩ : ∃ z : Int, z = am_w (x4 + 1) := ⟨_, rfl⟩
    have H := H y9 ey9
    refine am_R.next (lv' := [some (.inr (.inr ((43 : Nat) : Int))), some (.inr (.inr ((t1 : Nat) : Int))), some (.inl x2), some (.inl r8), some (.inl y9)]) (st' := []) (h' := g7) (pc' := 62) ((hp 59).trans rfl) (by rw [ey9]; rfl) ?_
    refine am_R.next ((hp 62).trans rfl) rfl ?_
    exact H
theorem w_Tally_fittingDeed_0 {scr : Nat × (Nat → Int)} {d : Nat} {h : am_H} {Q : Option am_V → am_H → Prop} {x1 x2 x3 : Int} (hs : am_sc scr) (hw : wf h) (H : am_R (am_prog scr) (d + 1) f_Tally_fittingDeed 3 [some (.inr (.inr ((43 : Nat) : Int))), some (.inl x1), some (.inl x2), some (.inr (.inl x3)), none, some (.inl 0)] [] h Q) : am_R (am_prog scr) (d + 1) f_Tally_fittingDeed 0 [some (.inr (.inr ((43 : Nat) : Int))), some (.inl x1), some (.inl x2), some (.inr (.inl x3)), none, none] [] h Q := by
  have hp : ∀ k, (am_prog scr).1 f_Tally_fittingDeed k = c_Tally_fittingDeed k := fun _ => rfl
  refine am_R.next ((hp 0).trans rfl) rfl ?_
  refine am_R.next (lv' := [some (.inr (.inr ((43 : Nat) : Int))), some (.inl x1), some (.inl x2), some (.inr (.inl x3)), none, some (.inl 0)]) ((hp 1).trans rfl) rfl ?_
  exact H
theorem w_Tally_fittingDeed_3 {scr : Nat × (Nat → Int)} {d : Nat} {h : am_H} {Q : Option am_V → am_H → Prop} {x1 x2 x3 x5 : Int} (hs : am_sc scr) (hw : wf h) (H : am_R (am_prog scr) d f_Graph_sleepers 0 [some (.inr (.inr ((30 : Nat) : Int)))] [] h (fun v g1 => ∃ r2 : Int, v = some (.inl r2) ∧ wf g1 ∧ ((r2 < x5 → (Q (some (.inl 0)) g1)) ∧ (¬ (r2 < x5) → (am_R (am_prog scr) d f_Graph_after 0 [some (.inr (.inr ((30 : Nat) : Int))), some (.inl x1), some (.inl x5), none] [] g1 (fun v g3 => ∃ r4 : Int, v = some (.inl r4) ∧ wf g3 ∧ (am_R (am_prog scr) d f_Tally_fittingBehind 0 [some (.inr (.inr ((43 : Nat) : Int))), some (.inl r4), some (.inl x2), some (.inr (.inl x3)), none] [] g3 (fun v g5 => ∃ r6 : Int, v = some (.inr (.inl r6)) ∧ wf g5 ∧ ((¬ (0 < r6) → (∀ y7 : Int, y7 = am_w (x5 + 1) → (am_R (am_prog scr) (d + 1) f_Tally_fittingDeed 3 [some (.inr (.inr ((43 : Nat) : Int))), some (.inl x1), some (.inl x2), some (.inr (.inl x3)), none, some (.inl y7)] [] g5 Q))) ∧ (0 < r6 → (Q (some (.inl x5)) g5))))))))))) : am_R (am_prog scr) (d + 1) f_Tally_fittingDeed 3 [some (.inr (.inr ((43 : Nat) : Int))), some (.inl x1), some (.inl x2), some (.inr (.inl x3)), none, some (.inl x5)] [] h Q := by
  have hp : ∀ k, (am_prog scr).1 f_Tally_fittingDeed k = c_Tally_fittingDeed k := fun _ => rfl
  refine am_R.next ((hp 3).trans rfl) rfl ?_
  refine am_R.next ((hp 5).trans rfl) rfl ?_
  refine r_getR ((hp 6).trans rfl) (hw.o (i := 43) (by decide) rfl) (hw.r wr_43_0) ?_
  refine r_cv (bs := []) (st' := [.inl x5]) ((hp 9).trans rfl) (hw.o (i := 30) (by decide) rfl) rfl rfl (Nat.le_of_ble_eq_true rfl) (Nat.le_of_ble_eq_true rfl) (am_R.post H (fun v g1 hq => ?_))
  obtain ⟨r2, rfl, hw, H⟩ := hq
  change am_R _ _ _ _ _ [.inl r2, .inl x5] _ _
  refine r_ic ((hp 12).trans rfl) (fun c9 => ?_) (fun c9 => ?_)
  · have H := H.1 c9
    refine am_R.next ((hp 45).trans rfl) rfl ?_
    exact am_R.ret ((hp 46).trans rfl) rfl H
  · have H := H.2 c9
    refine am_R.next ((hp 15).trans rfl) rfl ?_
    refine am_R.next ((hp 16).trans rfl) rfl ?_
    refine r_getR ((hp 17).trans rfl) (hw.o (i := 43) (by decide) rfl) (hw.r wr_43_0) ?_
    refine am_R.next ((hp 20).trans rfl) rfl ?_
    refine am_R.next ((hp 21).trans rfl) rfl ?_
    refine r_cv (bs := [.inl x1, .inl x5]) (st' := [.inr (.inr ((43 : Nat) : Int))]) ((hp 23).trans rfl) (hw.o (i := 30) (by decide) rfl) rfl rfl (Nat.le_of_ble_eq_true rfl) (Nat.le_of_ble_eq_true rfl) (am_R.post H (fun v g3 hq => ?_))
    obtain ⟨r4, rfl, hw, H⟩ := hq
    change am_R _ _ _ _ _ [.inl r4, .inr (.inr ((43 : Nat) : Int))] _ _
    refine am_R.next ((hp 26).trans rfl) rfl ?_
    refine am_R.next ((hp 27).trans rfl) rfl ?_
    refine r_cv (bs := [.inl r4, .inl x2, .inr (.inl x3)]) (st' := []) ((hp 28).trans rfl) (hw.o (i := 43) (by decide) rfl) rfl rfl (Nat.le_of_ble_eq_true rfl) (Nat.le_of_ble_eq_true rfl) (am_R.post H (fun v g5 hq => ?_))
    obtain ⟨r6, rfl, hw, H⟩ := hq
    change am_R _ _ _ _ _ [.inr (.inl r6)] _ _
    refine am_R.next ((hp 31).trans rfl) rfl ?_
    refine am_R.next ((hp 32).trans rfl) rfl ?_
    refine r_if ((hp 33).trans rfl) (fun c8 => ?_) (fun c8 => ?_)
    · have H := H.1 (lc_let c8)
      obtain ⟨y7, ey7⟩ : ∃ z : Int, z = am_w (x5 + 1) := ⟨_, rfl⟩
      have H := H y7 ey7
      refine am_R.next (lv' := [some (.inr (.inr ((43 : Nat) : Int))), some (.inl x1), some (.inl x2), some (.inr (.inl x3)), none, some (.inl y7)]) (st' := []) (h' := g5) (pc' := 42) ((hp 39).trans rfl) (by rw [ey7]; rfl) ?_
      refine am_R.next ((hp 42).trans rfl) rfl ?_
      exact H
    · have H := H.2 (lc_lef c8)
      refine am_R.next ((hp 36).trans rfl) rfl ?_
      exact am_R.ret ((hp 38).trans rfl) rfl H
theorem w_Tally_heardSnorers_0 {scr : Nat × (Nat → Int)} {d : Nat} {h : am_H} {Q : Option am_V → am_H → Prop} {x2 : Int} {t1 : Nat} (ht1 : t1 ∈ TR) (hs : am_sc scr) (hw : wf h) (H : am_R (am_prog scr) (d + 1) f_Tally_heardSnorers 5 [some (.inr (.inr ((43 : Nat) : Int))), some (.inr (.inr ((t1 : Nat) : Int))), some (.inl x2), some (.inl 0), some (.inl 0), none, none] [] h Q) : am_R (am_prog scr) (d + 1) f_Tally_heardSnorers 0 [some (.inr (.inr ((43 : Nat) : Int))), some (.inr (.inr ((t1 : Nat) : Int))), some (.inl x2), none, none, none, none] [] h Q := by
  have hp : ∀ k, (am_prog scr).1 f_Tally_heardSnorers k = c_Tally_heardSnorers k := fun _ => rfl
  refine am_R.next ((hp 0).trans rfl) rfl ?_
  refine am_R.next (lv' := [some (.inr (.inr ((43 : Nat) : Int))), some (.inr (.inr ((t1 : Nat) : Int))), some (.inl x2), some (.inl 0), none, none, none]) ((hp 1).trans rfl) rfl ?_
  refine am_R.next ((hp 2).trans rfl) rfl ?_
  refine am_R.next (lv' := [some (.inr (.inr ((43 : Nat) : Int))), some (.inr (.inr ((t1 : Nat) : Int))), some (.inl x2), some (.inl 0), some (.inl 0), none, none]) ((hp 3).trans rfl) rfl ?_
  exact H
theorem w_Tally_heardSnorers_5 {scr : Nat × (Nat → Int)} {d : Nat} {h : am_H} {Q : Option am_V → am_H → Prop} {x2 x3 x4 : Int} {t1 : Nat} (ht1 : t1 ∈ TR) (hs : am_sc scr) (hw : wf h) (H : (¬ (x4 < 180) → (Q (some (.inl x3)) h)) ∧ (x4 < 180 → (am_R (am_prog scr) (d + 1) f_Tally_heardSnorers 16 [some (.inr (.inr ((43 : Nat) : Int))), some (.inr (.inr ((t1 : Nat) : Int))), some (.inl x2), some (.inl x3), some (.inl x4), some (.inl 0), none] [] h Q))) : am_R (am_prog scr) (d + 1) f_Tally_heardSnorers 5 [some (.inr (.inr ((43 : Nat) : Int))), some (.inr (.inr ((t1 : Nat) : Int))), some (.inl x2), some (.inl x3), some (.inl x4), none, none] [] h Q := by
  have hp : ∀ k, (am_prog scr).1 f_Tally_heardSnorers k = c_Tally_heardSnorers k := fun _ => rfl
  refine am_R.next ((hp 5).trans rfl) rfl ?_
  refine am_R.next ((hp 7).trans rfl) rfl ?_
  refine r_ic ((hp 10).trans rfl) (fun c1 => ?_) (fun c1 => ?_)
  · have H := H.1 c1
    refine am_R.next ((hp 107).trans rfl) rfl ?_
    exact am_R.ret ((hp 108).trans rfl) rfl H
  · have H := H.2 (Decidable.not_not.mp c1)
    refine am_R.next ((hp 13).trans rfl) rfl ?_
    refine am_R.next (lv' := [some (.inr (.inr ((43 : Nat) : Int))), some (.inr (.inr ((t1 : Nat) : Int))), some (.inl x2), some (.inl x3), some (.inl x4), some (.inl 0), none]) ((hp 14).trans rfl) rfl ?_
    exact H
theorem w_Tally_heardSnorers_16 {scr : Nat × (Nat → Int)} {d : Nat} {h : am_H} {Q : Option am_V → am_H → Prop} {x2 x3 x4 x5 : Int} {t1 : Nat} (ht1 : t1 ∈ TR) (hs : am_sc scr) (hw : wf h) (H : am_R (am_prog scr) d f_Tally_isMet 0 [some (.inr (.inr ((43 : Nat) : Int))), some (.inl x4), some (.inl x2)] [] h (fun v g1 => ∃ r2 : Int, v = some (.inl r2) ∧ wf g1 ∧ ((r2 = 0 → (∀ y3 : Int, y3 = am_w (x4 + 1) → (am_R (am_prog scr) (d + 1) f_Tally_heardSnorers 5 [some (.inr (.inr ((43 : Nat) : Int))), some (.inr (.inr ((t1 : Nat) : Int))), some (.inl x2), some (.inl x3), some (.inl y3), none, none] [] g1 Q))) ∧ (¬ (r2 = 0) → (am_R (am_prog scr) d f_Graph_goesOn 0 [some (.inr (.inr ((30 : Nat) : Int))), some (.inl x4)] [] g1 (fun v g4 => ∃ r5 : Int, v = some (.inl r5) ∧ wf g4 ∧ ((r5 = 0 → (∀ y6 : Int, y6 = am_w (x4 + 1) → (am_R (am_prog scr) (d + 1) f_Tally_heardSnorers 5 [some (.inr (.inr ((43 : Nat) : Int))), some (.inr (.inr ((t1 : Nat) : Int))), some (.inl x2), some (.inl x3), some (.inl y6), none, none] [] g4 Q))) ∧ (¬ (r5 = 0) → (am_R (am_prog scr) d f_Graph_sleepers 0 [some (.inr (.inr ((30 : Nat) : Int)))] [] g4 (fun v g7 => ∃ r8 : Int, v = some (.inl r8) ∧ wf g7 ∧ ((r8 < x5 → (∀ y9 : Int, y9 = am_w (x4 + 1) → (am_R (am_prog scr) (d + 1) f_Tally_heardSnorers 5 [some (.inr (.inr ((43 : Nat) : Int))), some (.inr (.inr ((t1 : Nat) : Int))), some (.inl x2), some (.inl x3), some (.inl y9), none, none] [] g7 Q))) ∧ (¬ (r8 < x5) → (am_R (am_prog scr) d f_Graph_after 0 [some (.inr (.inr ((30 : Nat) : Int))), some (.inl x4), some (.inl x5), none] [] g7 (fun v g10 => ∃ r11 : Int, v = some (.inl r11) ∧ wf g10 ∧ ((0 ≤ x2 ∧ x2 < 40) ∧ (am_R (am_prog scr) d f_Tally_fittingBehind 0 [some (.inr (.inr ((43 : Nat) : Int))), some (.inl r11), some (.inl x2), some (.inr (.inl (g10.2.2.2 (t1 + 1) x2.toNat))), none] [] g10 (fun v g13 => ∃ r14 : Int, v = some (.inr (.inl r14)) ∧ wf g13 ∧ ((¬ (0 < r14) → (∀ y15 : Int, y15 = am_w (x5 + 1) → (am_R (am_prog scr) (d + 1) f_Tally_heardSnorers 16 [some (.inr (.inr ((43 : Nat) : Int))), some (.inr (.inr ((t1 : Nat) : Int))), some (.inl x2), some (.inl x3), some (.inl x4), some (.inl y15), none] [] g13 Q))) ∧ (0 < r14 → (am_R (am_prog scr) d f_Graph_lastOf 0 [some (.inr (.inr ((30 : Nat) : Int))), some (.inl r11)] [] g13 (fun v g16 => ∃ r17 : Int, v = some (.inl r17) ∧ wf g16 ∧ (∀ y18 : Int, y18 = am_or x3 (am_shl 1 r17) → (∀ y19 : Int, y19 = am_w (x5 + 1) → (am_R (am_prog scr) (d + 1) f_Tally_heardSnorers 16 [some (.inr (.inr ((43 : Nat) : Int))), some (.inr (.inr ((t1 : Nat) : Int))), some (.inl x2), some (.inl y18), some (.inl x4), some (.inl y19), none] [] g16 Q)))))))))))))))))))))))) : am_R (am_prog scr) (d + 1) f_Tally_heardSnorers 16 [some (.inr (.inr ((43 : Nat) : Int))), some (.inr (.inr ((t1 : Nat) : Int))), some (.inl x2), some (.inl x3), some (.inl x4), some (.inl x5), none] [] h Q := by
  have hp : ∀ k, (am_prog scr).1 f_Tally_heardSnorers k = c_Tally_heardSnorers k := fun _ => rfl
  refine am_R.next ((hp 16).trans rfl) rfl ?_
  refine am_R.next ((hp 17).trans rfl) rfl ?_
  refine am_R.next ((hp 19).trans rfl) rfl ?_
  refine r_cv (bs := [.inl x4, .inl x2]) (st' := []) ((hp 20).trans rfl) (hw.o (i := 43) (by decide) rfl) rfl rfl (Nat.le_of_ble_eq_true rfl) (Nat.le_of_ble_eq_true rfl) (am_R.post H (fun v g1 hq => ?_))
  obtain ⟨r2, rfl, hw, H⟩ := hq
  change am_R _ _ _ _ _ [.inl r2] _ _
  refine r_if ((hp 23).trans rfl) (fun c23 => ?_) (fun c23 => ?_)
  · have H := H.1 c23
    obtain ⟨y3, ey3⟩ : ∃ z : Int, z = am_w (x4 + 1) := ⟨_, rfl⟩
    have H := H y3 ey3
    refine am_R.next (lv' := [some (.inr (.inr ((43 : Nat) : Int))), some (.inr (.inr ((t1 : Nat) : Int))), some (.inl x2), some (.inl x3), some (.inl y3), some (.inl x5), none]) (st' := []) (h' := g1) (pc' := 104) ((hp 101).trans rfl) (by rw [ey3]; rfl) ?_
    refine am_R.next ((hp 104).trans rfl) rfl ?_
    exact r_le hs in_286 (le_k (le_k (le_k (le_k (le_k (le_d (le_k le_n))))))) H
  · have H := H.2 c23
    refine am_R.next ((hp 26).trans rfl) rfl ?_
    refine r_getR ((hp 27).trans rfl) (hw.o (i := 43) (by decide) rfl) (hw.r wr_43_0) ?_
    refine am_R.next ((hp 30).trans rfl) rfl ?_
    refine r_cv (bs := [.inl x4]) (st' := []) ((hp 32).trans rfl) (hw.o (i := 30) (by decide) rfl) rfl rfl (Nat.le_of_ble_eq_true rfl) (Nat.le_of_ble_eq_true rfl) (am_R.post H (fun v g4 hq => ?_))
    obtain ⟨r5, rfl, hw, H⟩ := hq
    change am_R _ _ _ _ _ [.inl r5] _ _
    refine r_if ((hp 35).trans rfl) (fun c22 => ?_) (fun c22 => ?_)
    · have H := H.1 c22
      obtain ⟨y6, ey6⟩ : ∃ z : Int, z = am_w (x4 + 1) := ⟨_, rfl⟩
      have H := H y6 ey6
      refine am_R.next (lv' := [some (.inr (.inr ((43 : Nat) : Int))), some (.inr (.inr ((t1 : Nat) : Int))), some (.inl x2), some (.inl x3), some (.inl y6), some (.inl x5), none]) (st' := []) (h' := g4) (pc' := 104) ((hp 101).trans rfl) (by rw [ey6]; rfl) ?_
      refine am_R.next ((hp 104).trans rfl) rfl ?_
      exact r_le hs in_286 (le_k (le_k (le_k (le_k (le_k (le_d (le_k le_n))))))) H
    · have H := H.2 c22
      refine am_R.next ((hp 38).trans rfl) rfl ?_
      refine am_R.next ((hp 40).trans rfl) rfl ?_
      refine r_getR ((hp 41).trans rfl) (hw.o (i := 43) (by decide) rfl) (hw.r wr_43_0) ?_
      refine r_cv (bs := []) (st' := [.inl x5]) ((hp 44).trans rfl) (hw.o (i := 30) (by decide) rfl) rfl rfl (Nat.le_of_ble_eq_true rfl) (Nat.le_of_ble_eq_true rfl) (am_R.post H (fun v g7 hq => ?_))
      obtain ⟨r8, rfl, hw, H⟩ := hq
      change am_R _ _ _ _ _ [.inl r8, .inl x5] _ _
      refine r_ic ((hp 47).trans rfl) (fun c21 => ?_) (fun c21 => ?_)
      · have H := H.1 c21
        obtain ⟨y9, ey9⟩ : ∃ z : Int, z = am_w (x4 + 1) := ⟨_, rfl⟩
        have H := H y9 ey9
        refine am_R.next (lv' := [some (.inr (.inr ((43 : Nat) : Int))), some (.inr (.inr ((t1 : Nat) : Int))), some (.inl x2), some (.inl x3), some (.inl y9), some (.inl x5), none]) (st' := []) (h' := g7) (pc' := 104) ((hp 101).trans rfl) (by rw [ey9]; rfl) ?_
        refine am_R.next ((hp 104).trans rfl) rfl ?_
        exact r_le hs in_286 (le_k (le_k (le_k (le_k (le_k (le_d (le_k le_n))))))) H
      · have H := H.2 c21
        refine am_R.next ((hp 50).trans rfl) rfl ?_
        refine r_getR ((hp 51).trans rfl) (hw.o (i := 43) (by decide) rfl) (hw.r wr_43_0) ?_
        refine am_R.next ((hp 54).trans rfl) rfl ?_
        refine am_R.next ((hp 56).trans rfl) rfl ?_
        refine r_cv (bs := [.inl x4, .inl x5]) (st' := []) ((hp 58).trans rfl) (hw.o (i := 30) (by decide) rfl) rfl rfl (Nat.le_of_ble_eq_true rfl) (Nat.le_of_ble_eq_true rfl) (am_R.post H (fun v g10 hq => ?_))
        obtain ⟨r11, rfl, hw, H⟩ := hq
        change am_R _ _ _ _ _ [.inl r11] _ _
        refine am_R.next (lv' := [some (.inr (.inr ((43 : Nat) : Int))), some (.inr (.inr ((t1 : Nat) : Int))), some (.inl x2), some (.inl x3), some (.inl x4), some (.inl x5), some (.inl r11)]) ((hp 61).trans rfl) rfl ?_
        refine am_R.next ((hp 63).trans rfl) rfl ?_
        refine am_R.next ((hp 64).trans rfl) rfl ?_
        refine am_R.next ((hp 66).trans rfl) rfl ?_
        refine am_R.next ((hp 67).trans rfl) rfl ?_
        refine r_getR ((hp 68).trans rfl) (tr_o ht1 hw) (tr_h ht1 hw) ?_
        refine am_R.next ((hp 71).trans rfl) rfl ?_
        obtain ⟨c12, H⟩ := H
        refine r_lald ((hp 72).trans rfl) (tr_ha ht1 hw c12.1 c12.2) ?_
        refine r_cv (bs := [.inl r11, .inl x2, .inr (.inl (g10.2.2.2 (t1 + 1) x2.toNat))]) (st' := []) ((hp 73).trans rfl) (hw.o (i := 43) (by decide) rfl) rfl rfl (Nat.le_of_ble_eq_true rfl) (Nat.le_of_ble_eq_true rfl) (am_R.post H (fun v g13 hq => ?_))
        obtain ⟨r14, rfl, hw, H⟩ := hq
        change am_R _ _ _ _ _ [.inr (.inl r14)] _ _
        refine am_R.next ((hp 76).trans rfl) rfl ?_
        refine am_R.next ((hp 77).trans rfl) rfl ?_
        refine r_if ((hp 78).trans rfl) (fun c20 => ?_) (fun c20 => ?_)
        · have H := H.1 (lc_let c20)
          obtain ⟨y15, ey15⟩ : ∃ z : Int, z = am_w (x5 + 1) := ⟨_, rfl⟩
          have H := H y15 ey15
          refine am_R.next (lv' := [some (.inr (.inr ((43 : Nat) : Int))), some (.inr (.inr ((t1 : Nat) : Int))), some (.inl x2), some (.inl x3), some (.inl x4), some (.inl y15), some (.inl r11)]) (st' := []) (h' := g13) (pc' := 98) ((hp 95).trans rfl) (by rw [ey15]; rfl) ?_
          refine am_R.next ((hp 98).trans rfl) rfl ?_
          exact r_le hs in_286 (le_k (le_k (le_k (le_k (le_k (le_k (le_d le_n))))))) H
        · have H := H.2 (lc_lef c20)
          refine am_R.next ((hp 81).trans rfl) rfl ?_
          refine am_R.next ((hp 82).trans rfl) rfl ?_
          refine am_R.next ((hp 83).trans rfl) rfl ?_
          refine r_getR ((hp 84).trans rfl) (hw.o (i := 43) (by decide) rfl) (hw.r wr_43_0) ?_
          refine am_R.next ((hp 87).trans rfl) rfl ?_
          refine r_cv (bs := [.inl r11]) (st' := [.inl 1, .inl x3]) ((hp 89).trans rfl) (hw.o (i := 30) (by decide) rfl) rfl rfl (Nat.le_of_ble_eq_true rfl) (Nat.le_of_ble_eq_true rfl) (am_R.post H (fun v g16 hq => ?_))
          obtain ⟨r17, rfl, hw, H⟩ := hq
          change am_R _ _ _ _ _ [.inl r17, .inl 1, .inl x3] _ _
          refine am_R.next ((hp 92).trans rfl) rfl ?_
          refine am_R.next ((hp 93).trans rfl) rfl ?_
          obtain ⟨y18, ey18⟩ : ∃ z : Int, z = am_or x3 (am_shl 1 r17) := ⟨_, rfl⟩
          have H := H y18 ey18
          refine am_R.next (lv' := [some (.inr (.inr ((43 : Nat) : Int))), some (.inr (.inr ((t1 : Nat) : Int))), some (.inl x2), some (.inl y18), some (.inl x4), some (.inl x5), some (.inl r11)]) (st' := []) (h' := g16) (pc' := 95) ((hp 94).trans rfl) (by rw [ey18]; rfl) ?_
          obtain ⟨y19, ey19⟩ : ∃ z : Int, z = am_w (x5 + 1) := ⟨_, rfl⟩
          have H := H y19 ey19
          refine am_R.next (lv' := [some (.inr (.inr ((43 : Nat) : Int))), some (.inr (.inr ((t1 : Nat) : Int))), some (.inl x2), some (.inl y18), some (.inl x4), some (.inl y19), some (.inl r11)]) (st' := []) (h' := g16) (pc' := 98) ((hp 95).trans rfl) (by rw [ey19]; rfl) ?_
          refine am_R.next ((hp 98).trans rfl) rfl ?_
          exact r_le hs in_286 (le_k (le_k (le_k (le_k (le_k (le_k (le_d le_n))))))) H
theorem w_Tokens_begin_0 {scr : Nat × (Nat → Int)} {d : Nat} {h : am_H} {Q : Option am_V → am_H → Prop} {x2 a1 : Int} (hs : am_sc scr) (hw : wf h) (H : (-1 ≤ a1) ∧ (∀ h2 : am_H, h2 = am_put h 3 0 a1 → (∀ h3 : am_H, h3 = am_put h2 3 1 x2 → (∀ h4 : am_H, h4 = am_put h3 3 4 0 → (∀ h5 : am_H, h5 = am_put h4 3 6 0 → (∀ h6 : am_H, h6 = am_put h5 3 7 (-1) → (am_R (am_prog scr) d f_Tokens_advance 0 [some (.inr (.inr ((3 : Nat) : Int))), none] [] h6 (fun v g7 => v = none ∧ wf g7 ∧ (Q none g7))))))))) : am_R (am_prog scr) (d + 1) f_Tokens_begin 0 [some (.inr (.inr ((3 : Nat) : Int))), some (.inr (.inr a1)), some (.inl x2)] [] h Q := by
  have hp : ∀ k, (am_prog scr).1 f_Tokens_begin k = c_Tokens_begin k := fun _ => rfl
  refine am_R.next ((hp 0).trans rfl) rfl ?_
  refine am_R.next ((hp 1).trans rfl) rfl ?_
  obtain ⟨c1, H⟩ := H
  obtain ⟨h2, eh2⟩ : ∃ z : am_H, z = am_put h 3 0 a1 := ⟨_, rfl⟩
  have H := H h2 eh2
  refine r_putR ((hp 2).trans rfl) (hw.o (i := 3) (by decide) rfl) c1 ?_
  have hw : wf h2 := by rw [eh2]; exact hw.put np_3_0
  change am_R _ _ _ _ _ _ (am_put h 3 0 a1) _
  rw [← eh2]
  refine am_R.next ((hp 5).trans rfl) rfl ?_
  refine am_R.next ((hp 6).trans rfl) rfl ?_
  obtain ⟨h3, eh3⟩ : ∃ z : am_H, z = am_put h2 3 1 x2 := ⟨_, rfl⟩
  have H := H h3 eh3
  refine r_putI ((hp 7).trans rfl) (hw.o (i := 3) (by decide) rfl) ?_
  have hw : wf h3 := by rw [eh3]; exact hw.put np_3_1
  change am_R _ _ _ _ _ _ (am_put h2 3 1 x2) _
  rw [← eh3]
  refine am_R.next ((hp 10).trans rfl) rfl ?_
  refine am_R.next ((hp 11).trans rfl) rfl ?_
  obtain ⟨h4, eh4⟩ : ∃ z : am_H, z = am_put h3 3 4 0 := ⟨_, rfl⟩
  have H := H h4 eh4
  refine r_putI ((hp 12).trans rfl) (hw.o (i := 3) (by decide) rfl) ?_
  have hw : wf h4 := by rw [eh4]; exact hw.put np_3_4
  change am_R _ _ _ _ _ _ (am_put h3 3 4 0) _
  rw [← eh4]
  refine am_R.next ((hp 15).trans rfl) rfl ?_
  refine am_R.next ((hp 16).trans rfl) rfl ?_
  obtain ⟨h5, eh5⟩ : ∃ z : am_H, z = am_put h4 3 6 0 := ⟨_, rfl⟩
  have H := H h5 eh5
  refine r_putI ((hp 17).trans rfl) (hw.o (i := 3) (by decide) rfl) ?_
  have hw : wf h5 := by rw [eh5]; exact hw.put np_3_6
  change am_R _ _ _ _ _ _ (am_put h4 3 6 0) _
  rw [← eh5]
  refine am_R.next ((hp 20).trans rfl) rfl ?_
  refine am_R.next ((hp 21).trans rfl) rfl ?_
  obtain ⟨h6, eh6⟩ : ∃ z : am_H, z = am_put h5 3 7 (-1) := ⟨_, rfl⟩
  have H := H h6 eh6
  refine r_putI ((hp 22).trans rfl) (hw.o (i := 3) (by decide) rfl) ?_
  have hw : wf h6 := by rw [eh6]; exact hw.put np_3_7
  change am_R _ _ _ _ _ _ (am_put h5 3 7 (-1)) _
  rw [← eh6]
  refine am_R.next ((hp 25).trans rfl) rfl ?_
  refine r_cv (bs := []) (st' := []) ((hp 26).trans rfl) (hw.o (i := 3) (by decide) rfl) rfl rfl (Nat.le_of_ble_eq_true rfl) (Nat.le_of_ble_eq_true rfl) (am_R.post H (fun v g7 hq => ?_))
  obtain ⟨rfl, hw, H⟩ := hq
  change am_R _ _ _ _ _ [] _ _
  exact am_R.ret ((hp 29).trans rfl) rfl H
theorem w_Tokens_isFaultless_0 {scr : Nat × (Nat → Int)} {d : Nat} {h : am_H} {Q : Option am_V → am_H → Prop} (hs : am_sc scr) (hw : wf h) (H : (¬ ((h.2.2.2 3 6) = 0) → (Q (some (.inl 0)) h)) ∧ ((h.2.2.2 3 6) = 0 → (Q (some (.inl 1)) h))) : am_R (am_prog scr) d f_Tokens_isFaultless 0 [some (.inr (.inr ((3 : Nat) : Int)))] [] h Q := by
  have hp : ∀ k, (am_prog scr).1 f_Tokens_isFaultless k = c_Tokens_isFaultless k := fun _ => rfl
  refine am_R.next ((hp 0).trans rfl) rfl ?_
  refine r_getI ((hp 1).trans rfl) (hw.o (i := 3) (by decide) rfl) ?_
  refine r_if ((hp 4).trans rfl) (fun c1 => ?_) (fun c1 => ?_)
  · have H := H.1 c1
    refine am_R.next ((hp 11).trans rfl) rfl ?_
    exact r_zret ((hp 12).trans rfl) (Or.inl rfl) H
  · have H := H.2 (Decidable.not_not.mp c1)
    refine am_R.next ((hp 7).trans rfl) rfl ?_
    refine am_R.next ((hp 8).trans rfl) rfl ?_
    exact r_zret ((hp 12).trans rfl) (Or.inr rfl) H
theorem w_Tokens_atEnd_0 {scr : Nat × (Nat → Int)} {d : Nat} {h : am_H} {Q : Option am_V → am_H → Prop} (hs : am_sc scr) (hw : wf h) (H : (¬ ((h.2.2.2 3 2) = 4) → (Q (some (.inl 0)) h)) ∧ ((h.2.2.2 3 2) = 4 → (Q (some (.inl 1)) h))) : am_R (am_prog scr) d f_Tokens_atEnd 0 [some (.inr (.inr ((3 : Nat) : Int)))] [] h Q := by
  have hp : ∀ k, (am_prog scr).1 f_Tokens_atEnd k = c_Tokens_atEnd k := fun _ => rfl
  refine am_R.next ((hp 0).trans rfl) rfl ?_
  refine r_getI ((hp 1).trans rfl) (hw.o (i := 3) (by decide) rfl) ?_
  refine am_R.next ((hp 4).trans rfl) rfl ?_
  refine r_ic ((hp 5).trans rfl) (fun c1 => ?_) (fun c1 => ?_)
  · have H := H.1 c1
    refine am_R.next ((hp 12).trans rfl) rfl ?_
    exact r_zret ((hp 13).trans rfl) (Or.inl rfl) H
  · have H := H.2 (Decidable.not_not.mp c1)
    refine am_R.next ((hp 8).trans rfl) rfl ?_
    refine am_R.next ((hp 9).trans rfl) rfl ?_
    exact r_zret ((hp 13).trans rfl) (Or.inr rfl) H
theorem w_Tokens_isNumber_0 {scr : Nat × (Nat → Int)} {d : Nat} {h : am_H} {Q : Option am_V → am_H → Prop} (hs : am_sc scr) (hw : wf h) (H : (¬ ((h.2.2.2 3 2) = 1) → (Q (some (.inl 0)) h)) ∧ ((h.2.2.2 3 2) = 1 → (Q (some (.inl 1)) h))) : am_R (am_prog scr) d f_Tokens_isNumber 0 [some (.inr (.inr ((3 : Nat) : Int)))] [] h Q := by
  have hp : ∀ k, (am_prog scr).1 f_Tokens_isNumber k = c_Tokens_isNumber k := fun _ => rfl
  refine am_R.next ((hp 0).trans rfl) rfl ?_
  refine r_getI ((hp 1).trans rfl) (hw.o (i := 3) (by decide) rfl) ?_
  refine am_R.next ((hp 4).trans rfl) rfl ?_
  refine r_ic ((hp 5).trans rfl) (fun c1 => ?_) (fun c1 => ?_)
  · have H := H.1 c1
    refine am_R.next ((hp 12).trans rfl) rfl ?_
    exact r_zret ((hp 13).trans rfl) (Or.inl rfl) H
  · have H := H.2 (Decidable.not_not.mp c1)
    refine am_R.next ((hp 8).trans rfl) rfl ?_
    refine am_R.next ((hp 9).trans rfl) rfl ?_
    exact r_zret ((hp 13).trans rfl) (Or.inr rfl) H
theorem w_Tokens_is_0 {scr : Nat × (Nat → Int)} {d : Nat} {h : am_H} {Q : Option am_V → am_H → Prop} {a1 : Int} (hs : am_sc scr) (hw : wf h) (H : ((h.2.2.2 3 2) = 0 → (am_R (am_prog scr) (d + 1) f_Tokens_is 15 [some (.inr (.inr ((3 : Nat) : Int))), some (.inr (.inr a1)), none] [] h Q)) ∧ (¬ ((h.2.2.2 3 2) = 0) → ((¬ ((h.2.2.2 3 2) = 2) → (Q (some (.inl 0)) h)) ∧ ((h.2.2.2 3 2) = 2 → (am_R (am_prog scr) (d + 1) f_Tokens_is 15 [some (.inr (.inr ((3 : Nat) : Int))), some (.inr (.inr a1)), none] [] h Q))))) : am_R (am_prog scr) (d + 1) f_Tokens_is 0 [some (.inr (.inr ((3 : Nat) : Int))), some (.inr (.inr a1)), none] [] h Q := by
  have hp : ∀ k, (am_prog scr).1 f_Tokens_is k = c_Tokens_is k := fun _ => rfl
  refine am_R.next ((hp 0).trans rfl) rfl ?_
  refine r_getI ((hp 1).trans rfl) (hw.o (i := 3) (by decide) rfl) ?_
  refine r_if ((hp 4).trans rfl) (fun c2 => ?_) (fun c2 => ?_)
  · have H := H.1 c2
    exact H
  · have H := H.2 c2
    refine am_R.next ((hp 7).trans rfl) rfl ?_
    refine r_getI ((hp 8).trans rfl) (hw.o (i := 3) (by decide) rfl) ?_
    refine am_R.next ((hp 11).trans rfl) rfl ?_
    refine r_ic ((hp 12).trans rfl) (fun c1 => ?_) (fun c1 => ?_)
    · have H := H.1 c1
      refine am_R.next ((hp 31).trans rfl) rfl ?_
      exact r_zret ((hp 32).trans rfl) (Or.inl rfl) H
    · have H := H.2 (Decidable.not_not.mp c1)
      exact H
theorem w_Tokens_is_15 {scr : Nat × (Nat → Int)} {d : Nat} {h : am_H} {Q : Option am_V → am_H → Prop} {a1 : Int} (hs : am_sc scr) (hw : wf h) (H : (a1 ≤ -2 ∧ -2 - ((am_tx.length : Nat) : Int) < a1) ∧ (am_R (am_prog scr) d f_jS_length 0 [some (.inr (.inr a1))] [] h (fun v g1 => ∃ r3 : Int, v = some (.inl r3) ∧ wf g1 ∧ (((am_w ((h.2.2.2 3 4) - (h.2.2.2 3 3))) = r3 → (am_R (am_prog scr) (d + 1) f_Tokens_is 35 [some (.inr (.inr ((3 : Nat) : Int))), some (.inr (.inr a1)), some (.inl 0)] [] g1 Q)) ∧ (¬ ((am_w ((h.2.2.2 3 4) - (h.2.2.2 3 3))) = r3) → (Q (some (.inl 0)) g1)))))) : am_R (am_prog scr) (d + 1) f_Tokens_is 15 [some (.inr (.inr ((3 : Nat) : Int))), some (.inr (.inr a1)), none] [] h Q := by
  have hp : ∀ k, (am_prog scr).1 f_Tokens_is k = c_Tokens_is k := fun _ => rfl
  refine am_R.next ((hp 15).trans rfl) rfl ?_
  refine r_getI ((hp 16).trans rfl) (hw.o (i := 3) (by decide) rfl) ?_
  refine am_R.next ((hp 19).trans rfl) rfl ?_
  refine r_getI ((hp 20).trans rfl) (hw.o (i := 3) (by decide) rfl) ?_
  refine am_R.next ((hp 23).trans rfl) rfl ?_
  refine am_R.next ((hp 24).trans rfl) rfl ?_
  obtain ⟨c2, H⟩ := H
  refine r_ct (bs := []) (st' := [.inl (am_w ((h.2.2.2 3 4) - (h.2.2.2 3 3)))]) ((hp 25).trans rfl) c2 rfl rfl (Nat.le_of_ble_eq_true rfl) (Nat.le_of_ble_eq_true rfl) (am_R.post H (fun v g1 hq => ?_))
  obtain ⟨r3, rfl, hw, H⟩ := hq
  change am_R _ _ _ _ _ [.inl r3, .inl (am_w ((h.2.2.2 3 4) - (h.2.2.2 3 3)))] _ _
  refine r_ic ((hp 28).trans rfl) (fun c4 => ?_) (fun c4 => ?_)
  · have H := H.1 c4
    refine am_R.next ((hp 33).trans rfl) rfl ?_
    refine am_R.next (lv' := [some (.inr (.inr ((3 : Nat) : Int))), some (.inr (.inr a1)), some (.inl 0)]) ((hp 34).trans rfl) rfl ?_
    exact H
  · have H := H.2 c4
    refine am_R.next ((hp 31).trans rfl) rfl ?_
    exact r_zret ((hp 32).trans rfl) (Or.inl rfl) H
theorem w_Tokens_is_35 {scr : Nat × (Nat → Int)} {d : Nat} {h : am_H} {Q : Option am_V → am_H → Prop} {x2 a1 : Int} (hs : am_sc scr) (hw : wf h) (H : (a1 ≤ -2 ∧ -2 - ((am_tx.length : Nat) : Int) < a1) ∧ (am_R (am_prog scr) d f_jS_length 0 [some (.inr (.inr a1))] [] h (fun v g1 => ∃ r3 : Int, v = some (.inl r3) ∧ wf g1 ∧ ((¬ (x2 < r3) → (Q (some (.inl 1)) g1)) ∧ (x2 < r3 → (am_inA g1 (g1.2.2.2 3 0) 3 (am_w ((g1.2.2.2 3 3) + x2)) ∧ ((a1 ≤ -2 ∧ -2 - ((am_tx.length : Nat) : Int) < a1) ∧ (am_R (am_prog scr) d f_jS_charAt 0 [some (.inr (.inr a1)), some (.inl x2)] [] g1 (fun v g5 => ∃ r7 : Int, v = some (.inl r7) ∧ wf g5 ∧ (((g1.2.2.2 ((g1.2.2.2 3 0).toNat) ((am_w ((g1.2.2.2 3 3) + x2)).toNat)) = r7 → (∀ y8 : Int, y8 = am_w (x2 + 1) → (am_R (am_prog scr) (d + 1) f_Tokens_is 35 [some (.inr (.inr ((3 : Nat) : Int))), some (.inr (.inr a1)), some (.inl y8)] [] g5 Q))) ∧ (¬ ((g1.2.2.2 ((g1.2.2.2 3 0).toNat) ((am_w ((g1.2.2.2 3 3) + x2)).toNat)) = r7) → (Q (some (.inl 0)) g5)))))))))))) : am_R (am_prog scr) (d + 1) f_Tokens_is 35 [some (.inr (.inr ((3 : Nat) : Int))), some (.inr (.inr a1)), some (.inl x2)] [] h Q := by
  have hp : ∀ k, (am_prog scr).1 f_Tokens_is k = c_Tokens_is k := fun _ => rfl
  refine am_R.next ((hp 35).trans rfl) rfl ?_
  refine am_R.next ((hp 36).trans rfl) rfl ?_
  obtain ⟨c2, H⟩ := H
  refine r_ct (bs := []) (st' := [.inl x2]) ((hp 37).trans rfl) c2 rfl rfl (Nat.le_of_ble_eq_true rfl) (Nat.le_of_ble_eq_true rfl) (am_R.post H (fun v g1 hq => ?_))
  obtain ⟨r3, rfl, hw, H⟩ := hq
  change am_R _ _ _ _ _ [.inl r3, .inl x2] _ _
  refine r_ic ((hp 40).trans rfl) (fun c10 => ?_) (fun c10 => ?_)
  · have H := H.1 c10
    refine am_R.next ((hp 70).trans rfl) rfl ?_
    exact r_zret ((hp 71).trans rfl) (Or.inr rfl) H
  · have H := H.2 (Decidable.not_not.mp c10)
    refine am_R.next ((hp 43).trans rfl) rfl ?_
    refine r_getR ((hp 44).trans rfl) (hw.o (i := 3) (by decide) rfl) rfl ?_
    refine am_R.next ((hp 47).trans rfl) rfl ?_
    refine r_getI ((hp 48).trans rfl) (hw.o (i := 3) (by decide) rfl) ?_
    refine am_R.next ((hp 51).trans rfl) rfl ?_
    refine am_R.next ((hp 52).trans rfl) rfl ?_
    obtain ⟨c4, H⟩ := H
    refine r_bald ((hp 53).trans rfl) c4 ?_
    refine am_R.next ((hp 54).trans rfl) rfl ?_
    refine am_R.next ((hp 55).trans rfl) rfl ?_
    obtain ⟨c6, H⟩ := H
    refine r_ct (bs := [.inl x2]) (st' := [.inl (g1.2.2.2 ((g1.2.2.2 3 0).toNat) ((am_w ((g1.2.2.2 3 3) + x2)).toNat))]) ((hp 56).trans rfl) c6 rfl rfl (Nat.le_of_ble_eq_true rfl) (Nat.le_of_ble_eq_true rfl) (am_R.post H (fun v g5 hq => ?_))
    obtain ⟨r7, rfl, hw, H⟩ := hq
    change am_R _ _ _ _ _ [.inl r7, .inl (g1.2.2.2 ((g1.2.2.2 3 0).toNat) ((am_w ((g1.2.2.2 3 3) + x2)).toNat))] _ _
    refine r_ic ((hp 59).trans rfl) (fun c9 => ?_) (fun c9 => ?_)
    · have H := H.1 c9
      obtain ⟨y8, ey8⟩ : ∃ z : Int, z = am_w (x2 + 1) := ⟨_, rfl⟩
      have H := H y8 ey8
      refine am_R.next (lv' := [some (.inr (.inr ((3 : Nat) : Int))), some (.inr (.inr a1)), some (.inl y8)]) (st' := []) (h' := g5) (pc' := 67) ((hp 64).trans rfl) (by rw [ey8]; rfl) ?_
      refine am_R.next ((hp 67).trans rfl) rfl ?_
      exact H
    · have H := H.2 c9
      refine am_R.next ((hp 62).trans rfl) rfl ?_
      exact r_zret ((hp 63).trans rfl) (Or.inl rfl) H
theorem w_Tokens_refuse_0 {scr : Nat × (Nat → Int)} {d : Nat} {h : am_H} {Q : Option am_V → am_H → Prop} {x1 : Int} (hs : am_sc scr) (hw : wf h) (H : (¬ ((h.2.2.2 3 6) = 0) → (Q none h)) ∧ ((h.2.2.2 3 6) = 0 → ((¬ ((h.2.2.2 3 2) = 3) → (∀ h1 : am_H, h1 = am_put h 3 6 x1 → (∀ h2 : am_H, h2 = am_put h1 3 7 (h1.2.2.2 3 3) → (Q none h2)))) ∧ ((h.2.2.2 3 2) = 3 → (∀ h3 : am_H, h3 = am_put h 3 6 1 → (∀ h4 : am_H, h4 = am_put h3 3 7 (h3.2.2.2 3 3) → (Q none h4))))))) : am_R (am_prog scr) d f_Tokens_refuse 0 [some (.inr (.inr ((3 : Nat) : Int))), some (.inl x1)] [] h Q := by
  have hp : ∀ k, (am_prog scr).1 f_Tokens_refuse k = c_Tokens_refuse k := fun _ => rfl
  refine am_R.next ((hp 0).trans rfl) rfl ?_
  refine r_getI ((hp 1).trans rfl) (hw.o (i := 3) (by decide) rfl) ?_
  refine r_if ((hp 4).trans rfl) (fun c6 => ?_) (fun c6 => ?_)
  · have H := H.1 c6
    exact am_R.ret ((hp 32).trans rfl) rfl H
  · have H := H.2 (Decidable.not_not.mp c6)
    refine am_R.next ((hp 7).trans rfl) rfl ?_
    refine am_R.next ((hp 8).trans rfl) rfl ?_
    refine r_getI ((hp 9).trans rfl) (hw.o (i := 3) (by decide) rfl) ?_
    refine am_R.next ((hp 12).trans rfl) rfl ?_
    refine r_ic ((hp 13).trans rfl) (fun c5 => ?_) (fun c5 => ?_)
    · have H := H.1 c5
      refine am_R.next ((hp 20).trans rfl) rfl ?_
      obtain ⟨h1, eh1⟩ : ∃ z : am_H, z = am_put h 3 6 x1 := ⟨_, rfl⟩
      have H := H h1 eh1
      refine r_putI ((hp 21).trans rfl) (hw.o (i := 3) (by decide) rfl) ?_
      have hw : wf h1 := by rw [eh1]; exact hw.put np_3_6
      change am_R _ _ _ _ _ _ (am_put h 3 6 x1) _
      rw [← eh1]
      refine am_R.next ((hp 24).trans rfl) rfl ?_
      refine am_R.next ((hp 25).trans rfl) rfl ?_
      refine r_getI ((hp 26).trans rfl) (hw.o (i := 3) (by decide) rfl) ?_
      obtain ⟨h2, eh2⟩ : ∃ z : am_H, z = am_put h1 3 7 (h1.2.2.2 3 3) := ⟨_, rfl⟩
      have H := H h2 eh2
      refine r_putI ((hp 29).trans rfl) (hw.o (i := 3) (by decide) rfl) ?_
      have hw : wf h2 := by rw [eh2]; exact hw.put np_3_7
      change am_R _ _ _ _ _ _ (am_put h1 3 7 (h1.2.2.2 3 3)) _
      rw [← eh2]
      exact am_R.ret ((hp 32).trans rfl) rfl H
    · have H := H.2 (Decidable.not_not.mp c5)
      refine am_R.next ((hp 16).trans rfl) rfl ?_
      refine am_R.next ((hp 17).trans rfl) rfl ?_
      obtain ⟨h3, eh3⟩ : ∃ z : am_H, z = am_put h 3 6 1 := ⟨_, rfl⟩
      have H := H h3 eh3
      refine r_putI ((hp 21).trans rfl) (hw.o (i := 3) (by decide) rfl) ?_
      have hw : wf h3 := by rw [eh3]; exact hw.put np_3_6
      change am_R _ _ _ _ _ _ (am_put h 3 6 1) _
      rw [← eh3]
      refine am_R.next ((hp 24).trans rfl) rfl ?_
      refine am_R.next ((hp 25).trans rfl) rfl ?_
      refine r_getI ((hp 26).trans rfl) (hw.o (i := 3) (by decide) rfl) ?_
      obtain ⟨h4, eh4⟩ : ∃ z : am_H, z = am_put h3 3 7 (h3.2.2.2 3 3) := ⟨_, rfl⟩
      have H := H h4 eh4
      refine r_putI ((hp 29).trans rfl) (hw.o (i := 3) (by decide) rfl) ?_
      have hw : wf h4 := by rw [eh4]; exact hw.put np_3_7
      change am_R _ _ _ _ _ _ (am_put h3 3 7 (h3.2.2.2 3 3)) _
      rw [← eh4]
      exact am_R.ret ((hp 32).trans rfl) rfl H
theorem w_Tokens_want_0 {scr : Nat × (Nat → Int)} {d : Nat} {h : am_H} {Q : Option am_V → am_H → Prop} {a1 : Int} (hs : am_sc scr) (hw : wf h) (H : ((h.2.2.2 3 6) = 0 → (am_R (am_prog scr) d f_Tokens_is 0 [some (.inr (.inr ((3 : Nat) : Int))), some (.inr (.inr a1)), none] [] h (fun v g1 => ∃ r2 : Int, v = some (.inl r2) ∧ wf g1 ∧ ((r2 = 0 → (am_R (am_prog scr) d f_Tokens_refuse 0 [some (.inr (.inr ((3 : Nat) : Int))), some (.inl 2)] [] g1 (fun v g3 => v = none ∧ wf g3 ∧ (Q none g3)))) ∧ (¬ (r2 = 0) → (am_R (am_prog scr) d f_Tokens_advance 0 [some (.inr (.inr ((3 : Nat) : Int))), none] [] g1 (fun v g4 => v = none ∧ wf g4 ∧ (Q none g4)))))))) ∧ (¬ ((h.2.2.2 3 6) = 0) → (Q none h))) : am_R (am_prog scr) (d + 1) f_Tokens_want 0 [some (.inr (.inr ((3 : Nat) : Int))), some (.inr (.inr a1))] [] h Q := by
  have hp : ∀ k, (am_prog scr).1 f_Tokens_want k = c_Tokens_want k := fun _ => rfl
  refine am_R.next ((hp 0).trans rfl) rfl ?_
  refine r_getI ((hp 1).trans rfl) (hw.o (i := 3) (by decide) rfl) ?_
  refine r_if ((hp 4).trans rfl) (fun c6 => ?_) (fun c6 => ?_)
  · have H := H.1 c6
    refine am_R.next ((hp 8).trans rfl) rfl ?_
    refine am_R.next ((hp 9).trans rfl) rfl ?_
    refine r_cv (bs := [.inr (.inr a1)]) (st' := []) ((hp 10).trans rfl) (hw.o (i := 3) (by decide) rfl) rfl rfl (Nat.le_of_ble_eq_true rfl) (Nat.le_of_ble_eq_true rfl) (am_R.post H (fun v g1 hq => ?_))
    obtain ⟨r2, rfl, hw, H⟩ := hq
    change am_R _ _ _ _ _ [.inl r2] _ _
    refine r_if ((hp 13).trans rfl) (fun c5 => ?_) (fun c5 => ?_)
    · have H := H.1 c5
      refine am_R.next ((hp 23).trans rfl) rfl ?_
      refine am_R.next ((hp 24).trans rfl) rfl ?_
      refine r_cv (bs := [.inl 2]) (st' := []) ((hp 25).trans rfl) (hw.o (i := 3) (by decide) rfl) rfl rfl (Nat.le_of_ble_eq_true rfl) (Nat.le_of_ble_eq_true rfl) (am_R.post H (fun v g3 hq => ?_))
      obtain ⟨rfl, hw, H⟩ := hq
      change am_R _ _ _ _ _ [] _ _
      exact am_R.ret ((hp 28).trans rfl) rfl H
    · have H := H.2 c5
      refine am_R.next ((hp 16).trans rfl) rfl ?_
      refine r_cv (bs := []) (st' := []) ((hp 17).trans rfl) (hw.o (i := 3) (by decide) rfl) rfl rfl (Nat.le_of_ble_eq_true rfl) (Nat.le_of_ble_eq_true rfl) (am_R.post H (fun v g4 hq => ?_))
      obtain ⟨rfl, hw, H⟩ := hq
      change am_R _ _ _ _ _ [] _ _
      refine am_R.next ((hp 20).trans rfl) rfl ?_
      exact am_R.ret ((hp 28).trans rfl) rfl H
  · have H := H.2 c6
    exact am_R.ret ((hp 7).trans rfl) rfl H
theorem w_Tokens_wantNumber_0 {scr : Nat × (Nat → Int)} {d : Nat} {h : am_H} {Q : Option am_V → am_H → Prop} {x1 x2 : Int} (hs : am_sc scr) (hw : wf h) (H : ((h.2.2.2 3 6) = 0 → (((h.2.2.2 3 2) = 1 → (((h.2.2.2 3 5) < x1 → (am_R (am_prog scr) d f_Tokens_refuse 0 [some (.inr (.inr ((3 : Nat) : Int))), some (.inl 3)] [] h (fun v g1 => v = none ∧ wf g1 ∧ (Q (some (.inl x1)) g1)))) ∧ (¬ ((h.2.2.2 3 5) < x1) → (((h.2.2.2 3 5) ≤ x2 → (∀ y2 : Int, y2 = h.2.2.2 3 5 → (am_R (am_prog scr) d f_Tokens_advance 0 [some (.inr (.inr ((3 : Nat) : Int))), none] [] h (fun v g3 => v = none ∧ wf g3 ∧ (Q (some (.inl y2)) g3))))) ∧ (¬ ((h.2.2.2 3 5) ≤ x2) → (am_R (am_prog scr) d f_Tokens_refuse 0 [some (.inr (.inr ((3 : Nat) : Int))), some (.inl 3)] [] h (fun v g4 => v = none ∧ wf g4 ∧ (Q (some (.inl x1)) g4)))))))) ∧ (¬ ((h.2.2.2 3 2) = 1) → (am_R (am_prog scr) d f_Tokens_refuse 0 [some (.inr (.inr ((3 : Nat) : Int))), some (.inl 2)] [] h (fun v g7 => v = none ∧ wf g7 ∧ (Q (some (.inl x1)) g7)))))) ∧ (¬ ((h.2.2.2 3 6) = 0) → (Q (some (.inl x1)) h))) : am_R (am_prog scr) (d + 1) f_Tokens_wantNumber 0 [some (.inr (.inr ((3 : Nat) : Int))), some (.inl x1), some (.inl x2), none] [] h Q := by
  have hp : ∀ k, (am_prog scr).1 f_Tokens_wantNumber k = c_Tokens_wantNumber k := fun _ => rfl
  refine am_R.next ((hp 0).trans rfl) rfl ?_
  refine r_getI ((hp 1).trans rfl) (hw.o (i := 3) (by decide) rfl) ?_
  refine r_if ((hp 4).trans rfl) (fun c9 => ?_) (fun c9 => ?_)
  · have H := H.1 c9
    refine am_R.next ((hp 9).trans rfl) rfl ?_
    refine r_getI ((hp 10).trans rfl) (hw.o (i := 3) (by decide) rfl) ?_
    refine am_R.next ((hp 13).trans rfl) rfl ?_
    refine r_ic ((hp 14).trans rfl) (fun c8 => ?_) (fun c8 => ?_)
    · have H := H.1 c8
      refine am_R.next ((hp 24).trans rfl) rfl ?_
      refine r_getI ((hp 25).trans rfl) (hw.o (i := 3) (by decide) rfl) ?_
      refine am_R.next ((hp 28).trans rfl) rfl ?_
      refine r_ic ((hp 29).trans rfl) (fun c6 => ?_) (fun c6 => ?_)
      · have H := H.1 c6
        refine am_R.next ((hp 40).trans rfl) rfl ?_
        refine am_R.next ((hp 41).trans rfl) rfl ?_
        refine r_cv (bs := [.inl 3]) (st' := []) ((hp 42).trans rfl) (hw.o (i := 3) (by decide) rfl) rfl rfl (Nat.le_of_ble_eq_true rfl) (Nat.le_of_ble_eq_true rfl) (am_R.post H (fun v g1 hq => ?_))
        obtain ⟨rfl, hw, H⟩ := hq
        change am_R _ _ _ _ _ [] _ _
        refine am_R.next ((hp 45).trans rfl) rfl ?_
        exact am_R.ret ((hp 46).trans rfl) rfl H
      · have H := H.2 c6
        refine am_R.next ((hp 32).trans rfl) rfl ?_
        refine r_getI ((hp 33).trans rfl) (hw.o (i := 3) (by decide) rfl) ?_
        refine am_R.next ((hp 36).trans rfl) rfl ?_
        refine r_ic ((hp 37).trans rfl) (fun c5 => ?_) (fun c5 => ?_)
        · have H := H.1 c5
          refine am_R.next ((hp 47).trans rfl) rfl ?_
          refine r_getI ((hp 48).trans rfl) (hw.o (i := 3) (by decide) rfl) ?_
          obtain ⟨y2, ey2⟩ : ∃ z : Int, z = h.2.2.2 3 5 := ⟨_, rfl⟩
          have H := H y2 ey2
          refine am_R.next (lv' := [some (.inr (.inr ((3 : Nat) : Int))), some (.inl x1), some (.inl x2), some (.inl y2)]) (st' := []) (h' := h) (pc' := 52) ((hp 51).trans rfl) (by rw [ey2]; rfl) ?_
          refine am_R.next ((hp 52).trans rfl) rfl ?_
          refine r_cv (bs := []) (st' := []) ((hp 53).trans rfl) (hw.o (i := 3) (by decide) rfl) rfl rfl (Nat.le_of_ble_eq_true rfl) (Nat.le_of_ble_eq_true rfl) (am_R.post H (fun v g3 hq => ?_))
          obtain ⟨rfl, hw, H⟩ := hq
          change am_R _ _ _ _ _ [] _ _
          refine am_R.next ((hp 56).trans rfl) rfl ?_
          exact am_R.ret ((hp 57).trans rfl) rfl H
        · have H := H.2 c5
          refine am_R.next ((hp 40).trans rfl) rfl ?_
          refine am_R.next ((hp 41).trans rfl) rfl ?_
          refine r_cv (bs := [.inl 3]) (st' := []) ((hp 42).trans rfl) (hw.o (i := 3) (by decide) rfl) rfl rfl (Nat.le_of_ble_eq_true rfl) (Nat.le_of_ble_eq_true rfl) (am_R.post H (fun v g4 hq => ?_))
          obtain ⟨rfl, hw, H⟩ := hq
          change am_R _ _ _ _ _ [] _ _
          refine am_R.next ((hp 45).trans rfl) rfl ?_
          exact am_R.ret ((hp 46).trans rfl) rfl H
    · have H := H.2 c8
      refine am_R.next ((hp 17).trans rfl) rfl ?_
      refine am_R.next ((hp 18).trans rfl) rfl ?_
      refine r_cv (bs := [.inl 2]) (st' := []) ((hp 19).trans rfl) (hw.o (i := 3) (by decide) rfl) rfl rfl (Nat.le_of_ble_eq_true rfl) (Nat.le_of_ble_eq_true rfl) (am_R.post H (fun v g7 hq => ?_))
      obtain ⟨rfl, hw, H⟩ := hq
      change am_R _ _ _ _ _ [] _ _
      refine am_R.next ((hp 22).trans rfl) rfl ?_
      exact am_R.ret ((hp 23).trans rfl) rfl H
  · have H := H.2 c9
    refine am_R.next ((hp 7).trans rfl) rfl ?_
    exact am_R.ret ((hp 8).trans rfl) rfl H
theorem w_Tokens_advance_0 {scr : Nat × (Nat → Int)} {d : Nat} {h : am_H} {Q : Option am_V → am_H → Prop} (hs : am_sc scr) (hw : wf h) (H : ∀ h1 : am_H, h1 = am_put h 3 3 (h.2.2.2 3 4) → (am_R (am_prog scr) (d + 1) f_Tokens_advance 8 [some (.inr (.inr ((3 : Nat) : Int))), none] [] h1 Q)) : am_R (am_prog scr) (d + 1) f_Tokens_advance 0 [some (.inr (.inr ((3 : Nat) : Int))), none] [] h Q := by
  have hp : ∀ k, (am_prog scr).1 f_Tokens_advance k = c_Tokens_advance k := fun _ => rfl
  refine am_R.next ((hp 0).trans rfl) rfl ?_
  refine am_R.next ((hp 1).trans rfl) rfl ?_
  refine r_getI ((hp 2).trans rfl) (hw.o (i := 3) (by decide) rfl) ?_
  obtain ⟨h1, eh1⟩ : ∃ z : am_H, z = am_put h 3 3 (h.2.2.2 3 4) := ⟨_, rfl⟩
  have H := H h1 eh1
  refine r_putI ((hp 5).trans rfl) (hw.o (i := 3) (by decide) rfl) ?_
  have hw : wf h1 := by rw [eh1]; exact hw.put np_3_3
  change am_R _ _ _ _ _ _ (am_put h 3 3 (h.2.2.2 3 4)) _
  rw [← eh1]
  exact H
theorem w_Tokens_advance_8 {scr : Nat × (Nat → Int)} {d : Nat} {h : am_H} {Q : Option am_V → am_H → Prop} (hs : am_sc scr) (hw : wf h) (H : (¬ ((h.2.2.2 3 3) < (h.2.2.2 3 1)) → (am_R (am_prog scr) (d + 1) f_Tokens_advance 60 [some (.inr (.inr ((3 : Nat) : Int))), none] [] h Q)) ∧ ((h.2.2.2 3 3) < (h.2.2.2 3 1) → (am_inA h (h.2.2.2 3 0) 3 (h.2.2.2 3 3) ∧ (((h.2.2.2 ((h.2.2.2 3 0).toNat) ((h.2.2.2 3 3).toNat)) = 10 → (∀ h2 : am_H, h2 = am_put h 3 3 (am_w ((h.2.2.2 3 3) + 1)) → (am_R (am_prog scr) (d + 1) f_Tokens_advance 8 [some (.inr (.inr ((3 : Nat) : Int))), none] [] h2 Q))) ∧ (¬ ((h.2.2.2 ((h.2.2.2 3 0).toNat) ((h.2.2.2 3 3).toNat)) = 10) → (am_inA h (h.2.2.2 3 0) 3 (h.2.2.2 3 3) ∧ ((¬ ((h.2.2.2 ((h.2.2.2 3 0).toNat) ((h.2.2.2 3 3).toNat)) = 32) → (am_R (am_prog scr) (d + 1) f_Tokens_advance 60 [some (.inr (.inr ((3 : Nat) : Int))), none] [] h Q)) ∧ ((h.2.2.2 ((h.2.2.2 3 0).toNat) ((h.2.2.2 3 3).toNat)) = 32 → (∀ h4 : am_H, h4 = am_put h 3 3 (am_w ((h.2.2.2 3 3) + 1)) → (am_R (am_prog scr) (d + 1) f_Tokens_advance 8 [some (.inr (.inr ((3 : Nat) : Int))), none] [] h4 Q)))))))))) : am_R (am_prog scr) (d + 1) f_Tokens_advance 8 [some (.inr (.inr ((3 : Nat) : Int))), none] [] h Q := by
  have hp : ∀ k, (am_prog scr).1 f_Tokens_advance k = c_Tokens_advance k := fun _ => rfl
  refine am_R.next ((hp 8).trans rfl) rfl ?_
  refine r_getI ((hp 9).trans rfl) (hw.o (i := 3) (by decide) rfl) ?_
  refine am_R.next ((hp 12).trans rfl) rfl ?_
  refine r_getI ((hp 13).trans rfl) (hw.o (i := 3) (by decide) rfl) ?_
  refine r_ic ((hp 16).trans rfl) (fun c7 => ?_) (fun c7 => ?_)
  · have H := H.1 c7
    exact H
  · have H := H.2 (Decidable.not_not.mp c7)
    refine am_R.next ((hp 19).trans rfl) rfl ?_
    refine r_getR ((hp 20).trans rfl) (hw.o (i := 3) (by decide) rfl) rfl ?_
    refine am_R.next ((hp 23).trans rfl) rfl ?_
    refine r_getI ((hp 24).trans rfl) (hw.o (i := 3) (by decide) rfl) ?_
    obtain ⟨c1, H⟩ := H
    refine r_bald ((hp 27).trans rfl) c1 ?_
    refine am_R.next ((hp 28).trans rfl) rfl ?_
    refine r_ic ((hp 30).trans rfl) (fun c6 => ?_) (fun c6 => ?_)
    · have H := H.1 c6
      refine am_R.next ((hp 47).trans rfl) rfl ?_
      refine am_R.next ((hp 48).trans rfl) rfl ?_
      refine r_getI ((hp 49).trans rfl) (hw.o (i := 3) (by decide) rfl) ?_
      refine am_R.next ((hp 52).trans rfl) rfl ?_
      refine am_R.next ((hp 53).trans rfl) rfl ?_
      obtain ⟨h2, eh2⟩ : ∃ z : am_H, z = am_put h 3 3 (am_w ((h.2.2.2 3 3) + 1)) := ⟨_, rfl⟩
      have H := H h2 eh2
      refine r_putI ((hp 54).trans rfl) (hw.o (i := 3) (by decide) rfl) ?_
      have hw : wf h2 := by rw [eh2]; exact hw.put np_3_3
      change am_R _ _ _ _ _ _ (am_put h 3 3 (am_w ((h.2.2.2 3 3) + 1))) _
      rw [← eh2]
      refine am_R.next ((hp 57).trans rfl) rfl ?_
      exact H
    · have H := H.2 c6
      refine am_R.next ((hp 33).trans rfl) rfl ?_
      refine r_getR ((hp 34).trans rfl) (hw.o (i := 3) (by decide) rfl) rfl ?_
      refine am_R.next ((hp 37).trans rfl) rfl ?_
      refine r_getI ((hp 38).trans rfl) (hw.o (i := 3) (by decide) rfl) ?_
      obtain ⟨c3, H⟩ := H
      refine r_bald ((hp 41).trans rfl) c3 ?_
      refine am_R.next ((hp 42).trans rfl) rfl ?_
      refine r_ic ((hp 44).trans rfl) (fun c5 => ?_) (fun c5 => ?_)
      · have H := H.1 c5
        exact H
      · have H := H.2 (Decidable.not_not.mp c5)
        refine am_R.next ((hp 47).trans rfl) rfl ?_
        refine am_R.next ((hp 48).trans rfl) rfl ?_
        refine r_getI ((hp 49).trans rfl) (hw.o (i := 3) (by decide) rfl) ?_
        refine am_R.next ((hp 52).trans rfl) rfl ?_
        refine am_R.next ((hp 53).trans rfl) rfl ?_
        obtain ⟨h4, eh4⟩ : ∃ z : am_H, z = am_put h 3 3 (am_w ((h.2.2.2 3 3) + 1)) := ⟨_, rfl⟩
        have H := H h4 eh4
        refine r_putI ((hp 54).trans rfl) (hw.o (i := 3) (by decide) rfl) ?_
        have hw : wf h4 := by rw [eh4]; exact hw.put np_3_3
        change am_R _ _ _ _ _ _ (am_put h 3 3 (am_w ((h.2.2.2 3 3) + 1))) _
        rw [← eh4]
        refine am_R.next ((hp 57).trans rfl) rfl ?_
        exact H
theorem w_Tokens_advance_60 {scr : Nat × (Nat → Int)} {d : Nat} {h : am_H} {Q : Option am_V → am_H → Prop} (hs : am_sc scr) (hw : wf h) (H : ∀ h1 : am_H, h1 = am_put h 3 4 (h.2.2.2 3 3) → (((h1.2.2.2 3 3) < (h1.2.2.2 3 1) → (am_inA h1 (h1.2.2.2 3 0) 3 (h1.2.2.2 3 3) ∧ (∀ y3 : Int, y3 = h1.2.2.2 ((h1.2.2.2 3 0).toNat) ((h1.2.2.2 3 3).toNat) → ((y3 < 97 → (am_R (am_prog scr) (d + 1) f_Tokens_advance 164 [some (.inr (.inr ((3 : Nat) : Int))), some (.inl y3)] [] h1 Q)) ∧ (¬ (y3 < 97) → ((122 < y3 → (am_R (am_prog scr) (d + 1) f_Tokens_advance 164 [some (.inr (.inr ((3 : Nat) : Int))), some (.inl y3)] [] h1 Q)) ∧ (¬ (122 < y3) → (∀ h4 : am_H, h4 = am_put h1 3 2 0 → (am_R (am_prog scr) (d + 1) f_Tokens_advance 112 [some (.inr (.inr ((3 : Nat) : Int))), some (.inl y3)] [] h4 Q))))))))) ∧ (¬ ((h1.2.2.2 3 3) < (h1.2.2.2 3 1)) → (∀ h7 : am_H, h7 = am_put h1 3 2 4 → (Q none h7))))) : am_R (am_prog scr) (d + 1) f_Tokens_advance 60 [some (.inr (.inr ((3 : Nat) : Int))), none] [] h Q := by
  have hp : ∀ k, (am_prog scr).1 f_Tokens_advance k = c_Tokens_advance k := fun _ => rfl
  refine am_R.next ((hp 60).trans rfl) rfl ?_
  refine am_R.next ((hp 61).trans rfl) rfl ?_
  refine r_getI ((hp 62).trans rfl) (hw.o (i := 3) (by decide) rfl) ?_
  obtain ⟨h1, eh1⟩ : ∃ z : am_H, z = am_put h 3 4 (h.2.2.2 3 3) := ⟨_, rfl⟩
  have H := H h1 eh1
  refine r_putI ((hp 65).trans rfl) (hw.o (i := 3) (by decide) rfl) ?_
  have hw : wf h1 := by rw [eh1]; exact hw.put np_3_4
  change am_R _ _ _ _ _ _ (am_put h 3 4 (h.2.2.2 3 3)) _
  rw [← eh1]
  refine am_R.next ((hp 68).trans rfl) rfl ?_
  refine r_getI ((hp 69).trans rfl) (hw.o (i := 3) (by decide) rfl) ?_
  refine am_R.next ((hp 72).trans rfl) rfl ?_
  refine r_getI ((hp 73).trans rfl) (hw.o (i := 3) (by decide) rfl) ?_
  refine r_ic ((hp 76).trans rfl) (fun c8 => ?_) (fun c8 => ?_)
  · have H := H.1 c8
    refine am_R.next ((hp 85).trans rfl) rfl ?_
    refine r_getR ((hp 86).trans rfl) (hw.o (i := 3) (by decide) rfl) rfl ?_
    refine am_R.next ((hp 89).trans rfl) rfl ?_
    refine r_getI ((hp 90).trans rfl) (hw.o (i := 3) (by decide) rfl) ?_
    obtain ⟨c2, H⟩ := H
    refine r_bald ((hp 93).trans rfl) c2 ?_
    obtain ⟨y3, ey3⟩ : ∃ z : Int, z = h1.2.2.2 ((h1.2.2.2 3 0).toNat) ((h1.2.2.2 3 3).toNat) := ⟨_, rfl⟩
    have H := H y3 ey3
    refine am_R.next (lv' := [some (.inr (.inr ((3 : Nat) : Int))), some (.inl y3)]) (st' := []) (h' := h1) (pc' := 95) ((hp 94).trans rfl) (by rw [ey3]; rfl) ?_
    refine am_R.next ((hp 95).trans rfl) rfl ?_
    refine am_R.next ((hp 96).trans rfl) rfl ?_
    refine r_ic ((hp 98).trans rfl) (fun c6 => ?_) (fun c6 => ?_)
    · have H := H.1 c6
      exact H
    · have H := H.2 c6
      refine am_R.next ((hp 101).trans rfl) rfl ?_
      refine am_R.next ((hp 102).trans rfl) rfl ?_
      refine r_ic ((hp 104).trans rfl) (fun c5 => ?_) (fun c5 => ?_)
      · have H := H.1 c5
        exact H
      · have H := H.2 c5
        refine am_R.next ((hp 107).trans rfl) rfl ?_
        refine am_R.next ((hp 108).trans rfl) rfl ?_
        obtain ⟨h4, eh4⟩ : ∃ z : am_H, z = am_put h1 3 2 0 := ⟨_, rfl⟩
        have H := H h4 eh4
        refine r_putI ((hp 109).trans rfl) (hw.o (i := 3) (by decide) rfl) ?_
        have hw : wf h4 := by rw [eh4]; exact hw.put np_3_2
        change am_R _ _ _ _ _ _ (am_put h1 3 2 0) _
        rw [← eh4]
        exact H
  · have H := H.2 c8
    refine am_R.next ((hp 79).trans rfl) rfl ?_
    refine am_R.next ((hp 80).trans rfl) rfl ?_
    obtain ⟨h7, eh7⟩ : ∃ z : am_H, z = am_put h1 3 2 4 := ⟨_, rfl⟩
    have H := H h7 eh7
    refine r_putI ((hp 81).trans rfl) (hw.o (i := 3) (by decide) rfl) ?_
    have hw : wf h7 := by rw [eh7]; exact hw.put np_3_2
    change am_R _ _ _ _ _ _ (am_put h1 3 2 4) _
    rw [← eh7]
    exact am_R.ret ((hp 84).trans rfl) rfl H
theorem w_Tokens_advance_112 {scr : Nat × (Nat → Int)} {d : Nat} {h : am_H} {Q : Option am_V → am_H → Prop} {x1 : Int} (hs : am_sc scr) (hw : wf h) (H : (¬ ((h.2.2.2 3 4) < (h.2.2.2 3 1)) → (Q none h)) ∧ ((h.2.2.2 3 4) < (h.2.2.2 3 1) → (am_inA h (h.2.2.2 3 0) 3 (h.2.2.2 3 4) ∧ (((h.2.2.2 ((h.2.2.2 3 0).toNat) ((h.2.2.2 3 4).toNat)) < 97 → (Q none h)) ∧ (¬ ((h.2.2.2 ((h.2.2.2 3 0).toNat) ((h.2.2.2 3 4).toNat)) < 97) → (am_inA h (h.2.2.2 3 0) 3 (h.2.2.2 3 4) ∧ ((122 < (h.2.2.2 ((h.2.2.2 3 0).toNat) ((h.2.2.2 3 4).toNat)) → (Q none h)) ∧ (¬ (122 < (h.2.2.2 ((h.2.2.2 3 0).toNat) ((h.2.2.2 3 4).toNat))) → (∀ h3 : am_H, h3 = am_put h 3 4 (am_w ((h.2.2.2 3 4) + 1)) → (am_R (am_prog scr) (d + 1) f_Tokens_advance 112 [some (.inr (.inr ((3 : Nat) : Int))), some (.inl x1)] [] h3 Q)))))))))) : am_R (am_prog scr) (d + 1) f_Tokens_advance 112 [some (.inr (.inr ((3 : Nat) : Int))), some (.inl x1)] [] h Q := by
  have hp : ∀ k, (am_prog scr).1 f_Tokens_advance k = c_Tokens_advance k := fun _ => rfl
  refine am_R.next ((hp 112).trans rfl) rfl ?_
  refine r_getI ((hp 113).trans rfl) (hw.o (i := 3) (by decide) rfl) ?_
  refine am_R.next ((hp 116).trans rfl) rfl ?_
  refine r_getI ((hp 117).trans rfl) (hw.o (i := 3) (by decide) rfl) ?_
  refine r_ic ((hp 120).trans rfl) (fun c6 => ?_) (fun c6 => ?_)
  · have H := H.1 c6
    exact am_R.ret ((hp 335).trans rfl) rfl H
  · have H := H.2 (Decidable.not_not.mp c6)
    refine am_R.next ((hp 123).trans rfl) rfl ?_
    refine r_getR ((hp 124).trans rfl) (hw.o (i := 3) (by decide) rfl) rfl ?_
    refine am_R.next ((hp 127).trans rfl) rfl ?_
    refine r_getI ((hp 128).trans rfl) (hw.o (i := 3) (by decide) rfl) ?_
    obtain ⟨c1, H⟩ := H
    refine r_bald ((hp 131).trans rfl) c1 ?_
    refine am_R.next ((hp 132).trans rfl) rfl ?_
    refine r_ic ((hp 134).trans rfl) (fun c5 => ?_) (fun c5 => ?_)
    · have H := H.1 c5
      exact am_R.ret ((hp 335).trans rfl) rfl H
    · have H := H.2 c5
      refine am_R.next ((hp 137).trans rfl) rfl ?_
      refine r_getR ((hp 138).trans rfl) (hw.o (i := 3) (by decide) rfl) rfl ?_
      refine am_R.next ((hp 141).trans rfl) rfl ?_
      refine r_getI ((hp 142).trans rfl) (hw.o (i := 3) (by decide) rfl) ?_
      obtain ⟨c2, H⟩ := H
      refine r_bald ((hp 145).trans rfl) c2 ?_
      refine am_R.next ((hp 146).trans rfl) rfl ?_
      refine r_ic ((hp 148).trans rfl) (fun c4 => ?_) (fun c4 => ?_)
      · have H := H.1 c4
        exact am_R.ret ((hp 335).trans rfl) rfl H
      · have H := H.2 c4
        refine am_R.next ((hp 151).trans rfl) rfl ?_
        refine am_R.next ((hp 152).trans rfl) rfl ?_
        refine r_getI ((hp 153).trans rfl) (hw.o (i := 3) (by decide) rfl) ?_
        refine am_R.next ((hp 156).trans rfl) rfl ?_
        refine am_R.next ((hp 157).trans rfl) rfl ?_
        obtain ⟨h3, eh3⟩ : ∃ z : am_H, z = am_put h 3 4 (am_w ((h.2.2.2 3 4) + 1)) := ⟨_, rfl⟩
        have H := H h3 eh3
        refine r_putI ((hp 158).trans rfl) (hw.o (i := 3) (by decide) rfl) ?_
        have hw : wf h3 := by rw [eh3]; exact hw.put np_3_4
        change am_R _ _ _ _ _ _ (am_put h 3 4 (am_w ((h.2.2.2 3 4) + 1))) _
        rw [← eh3]
        refine am_R.next ((hp 161).trans rfl) rfl ?_
        exact H
theorem w_Tokens_advance_164 {scr : Nat × (Nat → Int)} {d : Nat} {h : am_H} {Q : Option am_V → am_H → Prop} {x1 : Int} (hs : am_sc scr) (hw : wf h) (H : (x1 < 48 → (am_R (am_prog scr) (d + 1) f_Tokens_advance 302 [some (.inr (.inr ((3 : Nat) : Int))), some (.inl x1)] [] h Q)) ∧ (¬ (x1 < 48) → ((57 < x1 → (am_R (am_prog scr) (d + 1) f_Tokens_advance 302 [some (.inr (.inr ((3 : Nat) : Int))), some (.inl x1)] [] h Q)) ∧ (¬ (57 < x1) → (∀ h1 : am_H, h1 = am_put h 3 5 0 → (am_R (am_prog scr) (d + 1) f_Tokens_advance 181 [some (.inr (.inr ((3 : Nat) : Int))), some (.inl x1)] [] h1 Q)))))) : am_R (am_prog scr) (d + 1) f_Tokens_advance 164 [some (.inr (.inr ((3 : Nat) : Int))), some (.inl x1)] [] h Q := by
  have hp : ∀ k, (am_prog scr).1 f_Tokens_advance k = c_Tokens_advance k := fun _ => rfl
  refine am_R.next ((hp 164).trans rfl) rfl ?_
  refine am_R.next ((hp 165).trans rfl) rfl ?_
  refine r_ic ((hp 167).trans rfl) (fun c3 => ?_) (fun c3 => ?_)
  · have H := H.1 c3
    exact H
  · have H := H.2 c3
    refine am_R.next ((hp 170).trans rfl) rfl ?_
    refine am_R.next ((hp 171).trans rfl) rfl ?_
    refine r_ic ((hp 173).trans rfl) (fun c2 => ?_) (fun c2 => ?_)
    · have H := H.1 c2
      exact H
    · have H := H.2 c2
      refine am_R.next ((hp 176).trans rfl) rfl ?_
      refine am_R.next ((hp 177).trans rfl) rfl ?_
      obtain ⟨h1, eh1⟩ : ∃ z : am_H, z = am_put h 3 5 0 := ⟨_, rfl⟩
      have H := H h1 eh1
      refine r_putI ((hp 178).trans rfl) (hw.o (i := 3) (by decide) rfl) ?_
      have hw : wf h1 := by rw [eh1]; exact hw.put np_3_5
      change am_R _ _ _ _ _ _ (am_put h 3 5 0) _
      rw [← eh1]
      exact H
theorem w_Tokens_advance_181 {scr : Nat × (Nat → Int)} {d : Nat} {h : am_H} {Q : Option am_V → am_H → Prop} {x1 : Int} (hs : am_sc scr) (hw : wf h) (H : (¬ ((h.2.2.2 3 4) < (h.2.2.2 3 1)) → (am_R (am_prog scr) (d + 1) f_Tokens_advance 277 [some (.inr (.inr ((3 : Nat) : Int))), some (.inl x1)] [] h Q)) ∧ ((h.2.2.2 3 4) < (h.2.2.2 3 1) → (am_inA h (h.2.2.2 3 0) 3 (h.2.2.2 3 4) ∧ (((h.2.2.2 ((h.2.2.2 3 0).toNat) ((h.2.2.2 3 4).toNat)) < 48 → (am_R (am_prog scr) (d + 1) f_Tokens_advance 277 [some (.inr (.inr ((3 : Nat) : Int))), some (.inl x1)] [] h Q)) ∧ (¬ ((h.2.2.2 ((h.2.2.2 3 0).toNat) ((h.2.2.2 3 4).toNat)) < 48) → (am_inA h (h.2.2.2 3 0) 3 (h.2.2.2 3 4) ∧ ((57 < (h.2.2.2 ((h.2.2.2 3 0).toNat) ((h.2.2.2 3 4).toNat)) → (am_R (am_prog scr) (d + 1) f_Tokens_advance 277 [some (.inr (.inr ((3 : Nat) : Int))), some (.inl x1)] [] h Q)) ∧ (¬ (57 < (h.2.2.2 ((h.2.2.2 3 0).toNat) ((h.2.2.2 3 4).toNat))) → ((¬ ((am_w ((h.2.2.2 3 4) - (h.2.2.2 3 3))) < 3) → (∀ h3 : am_H, h3 = am_put h 3 5 (h.2.2.2 3 5) → (∀ h4 : am_H, h4 = am_put h3 3 4 (am_w ((h3.2.2.2 3 4) + 1)) → (am_R (am_prog scr) (d + 1) f_Tokens_advance 181 [some (.inr (.inr ((3 : Nat) : Int))), some (.inl x1)] [] h4 Q)))) ∧ ((am_w ((h.2.2.2 3 4) - (h.2.2.2 3 3))) < 3 → (am_inA h (h.2.2.2 3 0) 3 (h.2.2.2 3 4) ∧ (∀ h6 : am_H, h6 = am_put h 3 5 (am_w ((am_w ((am_w ((h.2.2.2 3 5) * 10)) + (h.2.2.2 ((h.2.2.2 3 0).toNat) ((h.2.2.2 3 4).toNat)))) - 48)) → (∀ h7 : am_H, h7 = am_put h6 3 4 (am_w ((h6.2.2.2 3 4) + 1)) → (am_R (am_prog scr) (d + 1) f_Tokens_advance 181 [some (.inr (.inr ((3 : Nat) : Int))), some (.inl x1)] [] h7 Q)))))))))))))) : am_R (am_prog scr) (d + 1) f_Tokens_advance 181 [some (.inr (.inr ((3 : Nat) : Int))), some (.inl x1)] [] h Q := by
  have hp : ∀ k, (am_prog scr).1 f_Tokens_advance k = c_Tokens_advance k := fun _ => rfl
  refine am_R.next ((hp 181).trans rfl) rfl ?_
  refine r_getI ((hp 182).trans rfl) (hw.o (i := 3) (by decide) rfl) ?_
  refine am_R.next ((hp 185).trans rfl) rfl ?_
  refine r_getI ((hp 186).trans rfl) (hw.o (i := 3) (by decide) rfl) ?_
  refine r_ic ((hp 189).trans rfl) (fun c11 => ?_) (fun c11 => ?_)
  · have H := H.1 c11
    exact H
  · have H := H.2 (Decidable.not_not.mp c11)
    refine am_R.next ((hp 192).trans rfl) rfl ?_
    refine r_getR ((hp 193).trans rfl) (hw.o (i := 3) (by decide) rfl) rfl ?_
    refine am_R.next ((hp 196).trans rfl) rfl ?_
    refine r_getI ((hp 197).trans rfl) (hw.o (i := 3) (by decide) rfl) ?_
    obtain ⟨c1, H⟩ := H
    refine r_bald ((hp 200).trans rfl) c1 ?_
    refine am_R.next ((hp 201).trans rfl) rfl ?_
    refine r_ic ((hp 203).trans rfl) (fun c10 => ?_) (fun c10 => ?_)
    · have H := H.1 c10
      exact H
    · have H := H.2 c10
      refine am_R.next ((hp 206).trans rfl) rfl ?_
      refine r_getR ((hp 207).trans rfl) (hw.o (i := 3) (by decide) rfl) rfl ?_
      refine am_R.next ((hp 210).trans rfl) rfl ?_
      refine r_getI ((hp 211).trans rfl) (hw.o (i := 3) (by decide) rfl) ?_
      obtain ⟨c2, H⟩ := H
      refine r_bald ((hp 214).trans rfl) c2 ?_
      refine am_R.next ((hp 215).trans rfl) rfl ?_
      refine r_ic ((hp 217).trans rfl) (fun c9 => ?_) (fun c9 => ?_)
      · have H := H.1 c9
        exact H
      · have H := H.2 c9
        refine am_R.next ((hp 220).trans rfl) rfl ?_
        refine am_R.next ((hp 221).trans rfl) rfl ?_
        refine r_getI ((hp 222).trans rfl) (hw.o (i := 3) (by decide) rfl) ?_
        refine am_R.next ((hp 225).trans rfl) rfl ?_
        refine r_getI ((hp 226).trans rfl) (hw.o (i := 3) (by decide) rfl) ?_
        refine am_R.next ((hp 229).trans rfl) rfl ?_
        refine am_R.next ((hp 230).trans rfl) rfl ?_
        refine r_ic ((hp 231).trans rfl) (fun c8 => ?_) (fun c8 => ?_)
        · have H := H.1 c8
          refine am_R.next ((hp 257).trans rfl) rfl ?_
          refine r_getI ((hp 258).trans rfl) (hw.o (i := 3) (by decide) rfl) ?_
          obtain ⟨h3, eh3⟩ : ∃ z : am_H, z = am_put h 3 5 (h.2.2.2 3 5) := ⟨_, rfl⟩
          have H := H h3 eh3
          refine r_putI ((hp 261).trans rfl) (hw.o (i := 3) (by decide) rfl) ?_
          have hw : wf h3 := by rw [eh3]; exact hw.put np_3_5
          change am_R _ _ _ _ _ _ (am_put h 3 5 (h.2.2.2 3 5)) _
          rw [← eh3]
          refine am_R.next ((hp 264).trans rfl) rfl ?_
          refine am_R.next ((hp 265).trans rfl) rfl ?_
          refine r_getI ((hp 266).trans rfl) (hw.o (i := 3) (by decide) rfl) ?_
          refine am_R.next ((hp 269).trans rfl) rfl ?_
          refine am_R.next ((hp 270).trans rfl) rfl ?_
          obtain ⟨h4, eh4⟩ : ∃ z : am_H, z = am_put h3 3 4 (am_w ((h3.2.2.2 3 4) + 1)) := ⟨_, rfl⟩
          have H := H h4 eh4
          refine r_putI ((hp 271).trans rfl) (hw.o (i := 3) (by decide) rfl) ?_
          have hw : wf h4 := by rw [eh4]; exact hw.put np_3_4
          change am_R _ _ _ _ _ _ (am_put h3 3 4 (am_w ((h3.2.2.2 3 4) + 1))) _
          rw [← eh4]
          refine am_R.next ((hp 274).trans rfl) rfl ?_
          exact H
        · have H := H.2 (Decidable.not_not.mp c8)
          refine am_R.next ((hp 234).trans rfl) rfl ?_
          refine r_getI ((hp 235).trans rfl) (hw.o (i := 3) (by decide) rfl) ?_
          refine am_R.next ((hp 238).trans rfl) rfl ?_
          refine am_R.next ((hp 240).trans rfl) rfl ?_
          refine am_R.next ((hp 241).trans rfl) rfl ?_
          refine r_getR ((hp 242).trans rfl) (hw.o (i := 3) (by decide) rfl) rfl ?_
          refine am_R.next ((hp 245).trans rfl) rfl ?_
          refine r_getI ((hp 246).trans rfl) (hw.o (i := 3) (by decide) rfl) ?_
          obtain ⟨c5, H⟩ := H
          refine r_bald ((hp 249).trans rfl) c5 ?_
          refine am_R.next ((hp 250).trans rfl) rfl ?_
          refine am_R.next ((hp 251).trans rfl) rfl ?_
          refine am_R.next ((hp 253).trans rfl) rfl ?_
          refine am_R.next ((hp 254).trans rfl) rfl ?_
          obtain ⟨h6, eh6⟩ : ∃ z : am_H, z = am_put h 3 5 (am_w ((am_w ((am_w ((h.2.2.2 3 5) * 10)) + (h.2.2.2 ((h.2.2.2 3 0).toNat) ((h.2.2.2 3 4).toNat)))) - 48)) := ⟨_, rfl⟩
          have H := H h6 eh6
          refine r_putI ((hp 261).trans rfl) (hw.o (i := 3) (by decide) rfl) ?_
          have hw : wf h6 := by rw [eh6]; exact hw.put np_3_5
          change am_R _ _ _ _ _ _ (am_put h 3 5 (am_w ((am_w ((am_w ((h.2.2.2 3 5) * 10)) + (h.2.2.2 ((h.2.2.2 3 0).toNat) ((h.2.2.2 3 4).toNat)))) - 48))) _
          rw [← eh6]
          refine am_R.next ((hp 264).trans rfl) rfl ?_
          refine am_R.next ((hp 265).trans rfl) rfl ?_
          refine r_getI ((hp 266).trans rfl) (hw.o (i := 3) (by decide) rfl) ?_
          refine am_R.next ((hp 269).trans rfl) rfl ?_
          refine am_R.next ((hp 270).trans rfl) rfl ?_
          obtain ⟨h7, eh7⟩ : ∃ z : am_H, z = am_put h6 3 4 (am_w ((h6.2.2.2 3 4) + 1)) := ⟨_, rfl⟩
          have H := H h7 eh7
          refine r_putI ((hp 271).trans rfl) (hw.o (i := 3) (by decide) rfl) ?_
          have hw : wf h7 := by rw [eh7]; exact hw.put np_3_4
          change am_R _ _ _ _ _ _ (am_put h6 3 4 (am_w ((h6.2.2.2 3 4) + 1))) _
          rw [← eh7]
          refine am_R.next ((hp 274).trans rfl) rfl ?_
          exact H
theorem w_Tokens_advance_277 {scr : Nat × (Nat → Int)} {d : Nat} {h : am_H} {Q : Option am_V → am_H → Prop} {x1 : Int} (hs : am_sc scr) (hw : wf h) (H : ((am_w ((h.2.2.2 3 4) - (h.2.2.2 3 3))) ≤ 3 → (∀ h1 : am_H, h1 = am_put h 3 2 1 → (Q none h1))) ∧ (¬ ((am_w ((h.2.2.2 3 4) - (h.2.2.2 3 3))) ≤ 3) → (∀ h2 : am_H, h2 = am_put h 3 2 3 → (Q none h2)))) : am_R (am_prog scr) (d + 1) f_Tokens_advance 277 [some (.inr (.inr ((3 : Nat) : Int))), some (.inl x1)] [] h Q := by
  have hp : ∀ k, (am_prog scr).1 f_Tokens_advance k = c_Tokens_advance k := fun _ => rfl
  refine am_R.next ((hp 277).trans rfl) rfl ?_
  refine am_R.next ((hp 278).trans rfl) rfl ?_
  refine r_getI ((hp 279).trans rfl) (hw.o (i := 3) (by decide) rfl) ?_
  refine am_R.next ((hp 282).trans rfl) rfl ?_
  refine r_getI ((hp 283).trans rfl) (hw.o (i := 3) (by decide) rfl) ?_
  refine am_R.next ((hp 286).trans rfl) rfl ?_
  refine am_R.next ((hp 287).trans rfl) rfl ?_
  refine r_ic ((hp 288).trans rfl) (fun c3 => ?_) (fun c3 => ?_)
  · have H := H.1 c3
    refine am_R.next ((hp 295).trans rfl) rfl ?_
    obtain ⟨h1, eh1⟩ : ∃ z : am_H, z = am_put h 3 2 1 := ⟨_, rfl⟩
    have H := H h1 eh1
    refine r_putI ((hp 296).trans rfl) (hw.o (i := 3) (by decide) rfl) ?_
    have hw : wf h1 := by rw [eh1]; exact hw.put np_3_2
    change am_R _ _ _ _ _ _ (am_put h 3 2 1) _
    rw [← eh1]
    refine am_R.next ((hp 299).trans rfl) rfl ?_
    exact am_R.ret ((hp 335).trans rfl) rfl H
  · have H := H.2 c3
    refine am_R.next ((hp 291).trans rfl) rfl ?_
    refine am_R.next ((hp 292).trans rfl) rfl ?_
    obtain ⟨h2, eh2⟩ : ∃ z : am_H, z = am_put h 3 2 3 := ⟨_, rfl⟩
    have H := H h2 eh2
    refine r_putI ((hp 296).trans rfl) (hw.o (i := 3) (by decide) rfl) ?_
    have hw : wf h2 := by rw [eh2]; exact hw.put np_3_2
    change am_R _ _ _ _ _ _ (am_put h 3 2 3) _
    rw [← eh2]
    refine am_R.next ((hp 299).trans rfl) rfl ?_
    exact am_R.ret ((hp 335).trans rfl) rfl H
theorem w_Tokens_advance_302 {scr : Nat × (Nat → Int)} {d : Nat} {h : am_H} {Q : Option am_V → am_H → Prop} {x1 : Int} (hs : am_sc scr) (hw : wf h) (H : am_R (am_prog scr) d f_jS_indexOf 0 [some (.inr (.inr (-2))), some (.inl (am_i2c (am_and x1 255)))] [] h (fun v g1 => ∃ r2 : Int, v = some (.inl r2) ∧ wf g1 ∧ ((r2 < 0 → (∀ h3 : am_H, h3 = am_put g1 3 2 3 → (∀ h4 : am_H, h4 = am_put h3 3 4 (am_w ((h3.2.2.2 3 4) + 1)) → (Q none h4)))) ∧ (¬ (r2 < 0) → (∀ h5 : am_H, h5 = am_put g1 3 2 2 → (∀ h6 : am_H, h6 = am_put h5 3 4 (am_w ((h5.2.2.2 3 4) + 1)) → (Q none h6))))))) : am_R (am_prog scr) (d + 1) f_Tokens_advance 302 [some (.inr (.inr ((3 : Nat) : Int))), some (.inl x1)] [] h Q := by
  have hp : ∀ k, (am_prog scr).1 f_Tokens_advance k = c_Tokens_advance k := fun _ => rfl
  refine am_R.next ((hp 302).trans rfl) rfl ?_
  refine am_R.next ((hp 303).trans rfl) rfl ?_
  refine am_R.next ((hp 305).trans rfl) rfl ?_
  refine am_R.next ((hp 306).trans rfl) rfl ?_
  refine am_R.next ((hp 309).trans rfl) rfl ?_
  refine am_R.next ((hp 310).trans rfl) rfl ?_
  refine r_ct (bs := [.inl (am_i2c (am_and x1 255))]) (st' := [.inr (.inr ((3 : Nat) : Int))]) ((hp 311).trans rfl) (by decide) rfl rfl (Nat.le_of_ble_eq_true rfl) (Nat.le_of_ble_eq_true rfl) (am_R.post H (fun v g1 hq => ?_))
  obtain ⟨r2, rfl, hw, H⟩ := hq
  change am_R _ _ _ _ _ [.inl r2, .inr (.inr ((3 : Nat) : Int))] _ _
  refine r_if ((hp 314).trans rfl) (fun c7 => ?_) (fun c7 => ?_)
  · have H := H.1 c7
    refine am_R.next ((hp 321).trans rfl) rfl ?_
    obtain ⟨h3, eh3⟩ : ∃ z : am_H, z = am_put g1 3 2 3 := ⟨_, rfl⟩
    have H := H h3 eh3
    refine r_putI ((hp 322).trans rfl) (hw.o (i := 3) (by decide) rfl) ?_
    have hw : wf h3 := by rw [eh3]; exact hw.put np_3_2
    change am_R _ _ _ _ _ _ (am_put g1 3 2 3) _
    rw [← eh3]
    refine am_R.next ((hp 325).trans rfl) rfl ?_
    refine am_R.next ((hp 326).trans rfl) rfl ?_
    refine r_getI ((hp 327).trans rfl) (hw.o (i := 3) (by decide) rfl) ?_
    refine am_R.next ((hp 330).trans rfl) rfl ?_
    refine am_R.next ((hp 331).trans rfl) rfl ?_
    obtain ⟨h4, eh4⟩ : ∃ z : am_H, z = am_put h3 3 4 (am_w ((h3.2.2.2 3 4) + 1)) := ⟨_, rfl⟩
    have H := H h4 eh4
    refine r_putI ((hp 332).trans rfl) (hw.o (i := 3) (by decide) rfl) ?_
    have hw : wf h4 := by rw [eh4]; exact hw.put np_3_4
    change am_R _ _ _ _ _ _ (am_put h3 3 4 (am_w ((h3.2.2.2 3 4) + 1))) _
    rw [← eh4]
    exact am_R.ret ((hp 335).trans rfl) rfl H
  · have H := H.2 c7
    refine am_R.next ((hp 317).trans rfl) rfl ?_
    refine am_R.next ((hp 318).trans rfl) rfl ?_
    obtain ⟨h5, eh5⟩ : ∃ z : am_H, z = am_put g1 3 2 2 := ⟨_, rfl⟩
    have H := H h5 eh5
    refine r_putI ((hp 322).trans rfl) (hw.o (i := 3) (by decide) rfl) ?_
    have hw : wf h5 := by rw [eh5]; exact hw.put np_3_2
    change am_R _ _ _ _ _ _ (am_put g1 3 2 2) _
    rw [← eh5]
    refine am_R.next ((hp 325).trans rfl) rfl ?_
    refine am_R.next ((hp 326).trans rfl) rfl ?_
    refine r_getI ((hp 327).trans rfl) (hw.o (i := 3) (by decide) rfl) ?_
    refine am_R.next ((hp 330).trans rfl) rfl ?_
    refine am_R.next ((hp 331).trans rfl) rfl ?_
    obtain ⟨h6, eh6⟩ : ∃ z : am_H, z = am_put h5 3 4 (am_w ((h5.2.2.2 3 4) + 1)) := ⟨_, rfl⟩
    have H := H h6 eh6
    refine r_putI ((hp 332).trans rfl) (hw.o (i := 3) (by decide) rfl) ?_
    have hw : wf h6 := by rw [eh6]; exact hw.put np_3_4
    change am_R _ _ _ _ _ _ (am_put h5 3 4 (am_w ((h5.2.2.2 3 4) + 1))) _
    rw [← eh6]
    exact am_R.ret ((hp 335).trans rfl) rfl H
theorem w_Tray_lay_0 {scr : Nat × (Nat → Int)} {d : Nat} {h : am_H} {Q : Option am_V → am_H → Prop} {x1 x2 : Int} {t0 : Nat} (ht0 : t0 ∈ TR) (hs : am_sc scr) (hw : wf h) (H : ∀ h1 : am_H, h1 = am_put h t0 0 0 → (∀ h2 : am_H, h2 = am_put h1 t0 1 x1 → (∀ h3 : am_H, h3 = am_put h2 t0 2 x2 → (am_R (am_prog scr) d f_jA_fill 0 [some (.inr (.inr ((t0 + 1 : Nat) : Int))), some (.inr (.inl 0)), none, none, none] [] h3 (fun v g4 => v = none ∧ wf g4 ∧ (Q none g4)))))) : am_R (am_prog scr) (d + 1) f_Tray_lay 0 [some (.inr (.inr ((t0 : Nat) : Int))), some (.inl x1), some (.inl x2)] [] h Q := by
  have hp : ∀ k, (am_prog scr).1 f_Tray_lay k = c_Tray_lay k := fun _ => rfl
  refine am_R.next ((hp 0).trans rfl) rfl ?_
  refine am_R.next ((hp 1).trans rfl) rfl ?_
  obtain ⟨h1, eh1⟩ : ∃ z : am_H, z = am_put h t0 0 0 := ⟨_, rfl⟩
  have H := H h1 eh1
  refine r_putZ ((hp 2).trans rfl) (tr_o ht0 hw) (Or.inl rfl) ?_
  have hw : wf h1 := by rw [eh1]; exact hw.put (tr_np ht0 (by decide))
  change am_R _ _ _ _ _ _ (am_put h t0 0 0) _
  rw [← eh1]
  refine am_R.next ((hp 5).trans rfl) rfl ?_
  refine am_R.next ((hp 6).trans rfl) rfl ?_
  obtain ⟨h2, eh2⟩ : ∃ z : am_H, z = am_put h1 t0 1 x1 := ⟨_, rfl⟩
  have H := H h2 eh2
  refine r_putI ((hp 7).trans rfl) (tr_o ht0 hw) ?_
  have hw : wf h2 := by rw [eh2]; exact hw.put (tr_np ht0 (by decide))
  change am_R _ _ _ _ _ _ (am_put h1 t0 1 x1) _
  rw [← eh2]
  refine am_R.next ((hp 10).trans rfl) rfl ?_
  refine am_R.next ((hp 11).trans rfl) rfl ?_
  obtain ⟨h3, eh3⟩ : ∃ z : am_H, z = am_put h2 t0 2 x2 := ⟨_, rfl⟩
  have H := H h3 eh3
  refine r_putI ((hp 12).trans rfl) (tr_o ht0 hw) ?_
  have hw : wf h3 := by rw [eh3]; exact hw.put (tr_np ht0 (by decide))
  change am_R _ _ _ _ _ _ (am_put h2 t0 2 x2) _
  rw [← eh3]
  refine am_R.next ((hp 15).trans rfl) rfl ?_
  refine r_getR ((hp 16).trans rfl) (tr_o ht0 hw) (tr_h ht0 hw) ?_
  refine am_R.next ((hp 19).trans rfl) rfl ?_
  refine r_cs (as := [.inr (.inr ((t0 + 1 : Nat) : Int)), .inr (.inl 0)]) (st' := []) ((hp 20).trans rfl) rfl rfl (Nat.le_of_ble_eq_true rfl) (Nat.le_of_ble_eq_true rfl) (am_R.post H (fun v g4 hq => ?_))
  obtain ⟨rfl, hw, H⟩ := hq
  change am_R _ _ _ _ _ [] _ _
  exact am_R.ret ((hp 23).trans rfl) rfl H
theorem w_Tray_put_0 {scr : Nat × (Nat → Int)} {d : Nat} {h : am_H} {Q : Option am_V → am_H → Prop} {x1 x2 : Int} {t0 : Nat} (ht0 : t0 ∈ TR) (hs : am_sc scr) (hw : wf h) (H : (¬ ((h.2.2.2 t0 1) = 0) → ((¬ ((h.2.2.2 t0 1) = 1) → ((¬ ((h.2.2.2 t0 1) = 2) → (((0 ≤ x1 ∧ x1 < 40)) ∧ (∀ h2 : am_H, h2 = am_put h (t0 + 1) x1.toNat x2 → (Q (some (.inr (.inl x2))) h2)))) ∧ ((h.2.2.2 t0 1) = 2 → (∀ y3 : Int, y3 = am_w x2 → (((0 ≤ x1 ∧ x1 < 40)) ∧ (∀ h5 : am_H, h5 = am_put h (t0 + 1) x1.toNat y3 → (Q (some (.inr (.inl y3))) h5))))))) ∧ ((h.2.2.2 t0 1) = 1 → (∀ y7 : Int, y7 = Int.bmod (am_w x2) 65536 → (((0 ≤ x1 ∧ x1 < 40)) ∧ (∀ h9 : am_H, h9 = am_put h (t0 + 1) x1.toNat y7 → (Q (some (.inr (.inl y7))) h9))))))) ∧ ((h.2.2.2 t0 1) = 0 → (∀ y11 : Int, y11 = Int.bmod (am_w x2) 256 → (((0 ≤ x1 ∧ x1 < 40)) ∧ (∀ h13 : am_H, h13 = am_put h (t0 + 1) x1.toNat y11 → (Q (some (.inr (.inl y11))) h13)))))) : am_R (am_prog scr) d f_Tray_put 0 [some (.inr (.inr ((t0 : Nat) : Int))), some (.inl x1), some (.inr (.inl x2)), none, none, none] [] h Q := by
  have hp : ∀ k, (am_prog scr).1 f_Tray_put k = c_Tray_put k := fun _ => rfl
  refine am_R.next ((hp 0).trans rfl) rfl ?_
  refine am_R.next (lv' := [some (.inr (.inr ((t0 : Nat) : Int))), some (.inl x1), some (.inr (.inl x2)), none, some (.inr (.inl x2)), none]) ((hp 1).trans rfl) rfl ?_
  refine am_R.next ((hp 3).trans rfl) rfl ?_
  refine r_getI ((hp 4).trans rfl) (tr_o ht0 hw) ?_
  refine r_if ((hp 7).trans rfl) (fun c14 => ?_) (fun c14 => ?_)
  · have H := H.1 c14
    refine am_R.next ((hp 19).trans rfl) rfl ?_
    refine r_getI ((hp 20).trans rfl) (tr_o ht0 hw) ?_
    refine am_R.next ((hp 23).trans rfl) rfl ?_
    refine r_ic ((hp 24).trans rfl) (fun c10 => ?_) (fun c10 => ?_)
    · have H := H.1 c10
      refine am_R.next ((hp 36).trans rfl) rfl ?_
      refine r_getI ((hp 37).trans rfl) (tr_o ht0 hw) ?_
      refine am_R.next ((hp 40).trans rfl) rfl ?_
      refine r_ic ((hp 41).trans rfl) (fun c6 => ?_) (fun c6 => ?_)
      · have H := H.1 c6
        refine am_R.next ((hp 49).trans rfl) rfl ?_
        refine r_getR ((hp 50).trans rfl) (tr_o ht0 hw) (tr_h ht0 hw) ?_
        refine am_R.next ((hp 53).trans rfl) rfl ?_
        refine am_R.next ((hp 54).trans rfl) rfl ?_
        obtain ⟨c1, H⟩ := H
        obtain ⟨h2, eh2⟩ : ∃ z : am_H, z = am_put h (t0 + 1) x1.toNat x2 := ⟨_, rfl⟩
        have H := H h2 eh2
        refine r_last ((hp 56).trans rfl) (tr_ha ht0 hw c1.1 c1.2) ?_
        have hw : wf h2 := by rw [eh2]; exact hw.pa (tr_lt ht0).2.2.2.2
        change am_R _ _ _ _ _ _ (am_put h (t0 + 1) x1.toNat x2) _
        rw [← eh2]
        refine am_R.next ((hp 57).trans rfl) rfl ?_
        exact am_R.ret ((hp 59).trans rfl) rfl H
      · have H := H.2 (Decidable.not_not.mp c6)
        refine am_R.next ((hp 44).trans rfl) rfl ?_
        refine am_R.next ((hp 45).trans rfl) rfl ?_
        refine am_R.next ((hp 46).trans rfl) rfl ?_
        obtain ⟨y3, ey3⟩ : ∃ z : Int, z = am_w x2 := ⟨_, rfl⟩
        have H := H y3 ey3
        refine am_R.next (lv' := [some (.inr (.inr ((t0 : Nat) : Int))), some (.inl x1), some (.inr (.inl x2)), none, some (.inr (.inl y3)), none]) (st' := []) (h' := h) (pc' := 49) ((hp 47).trans rfl) (by rw [ey3]; rfl) ?_
        refine am_R.next ((hp 49).trans rfl) rfl ?_
        refine r_getR ((hp 50).trans rfl) (tr_o ht0 hw) (tr_h ht0 hw) ?_
        refine am_R.next ((hp 53).trans rfl) rfl ?_
        refine am_R.next ((hp 54).trans rfl) rfl ?_
        obtain ⟨c4, H⟩ := H
        obtain ⟨h5, eh5⟩ : ∃ z : am_H, z = am_put h (t0 + 1) x1.toNat y3 := ⟨_, rfl⟩
        have H := H h5 eh5
        refine r_last ((hp 56).trans rfl) (tr_ha ht0 hw c4.1 c4.2) ?_
        have hw : wf h5 := by rw [eh5]; exact hw.pa (tr_lt ht0).2.2.2.2
        change am_R _ _ _ _ _ _ (am_put h (t0 + 1) x1.toNat y3) _
        rw [← eh5]
        refine am_R.next ((hp 57).trans rfl) rfl ?_
        exact am_R.ret ((hp 59).trans rfl) rfl H
    · have H := H.2 (Decidable.not_not.mp c10)
      refine am_R.next ((hp 27).trans rfl) rfl ?_
      refine am_R.next ((hp 28).trans rfl) rfl ?_
      refine am_R.next ((hp 29).trans rfl) rfl ?_
      refine am_R.next ((hp 30).trans rfl) rfl ?_
      obtain ⟨y7, ey7⟩ : ∃ z : Int, z = Int.bmod (am_w x2) 65536 := ⟨_, rfl⟩
      have H := H y7 ey7
      refine am_R.next (lv' := [some (.inr (.inr ((t0 : Nat) : Int))), some (.inl x1), some (.inr (.inl x2)), none, some (.inr (.inl y7)), none]) (st' := []) (h' := h) (pc' := 33) ((hp 31).trans rfl) (by rw [ey7]; rfl) ?_
      refine am_R.next ((hp 33).trans rfl) rfl ?_
      refine am_R.next ((hp 49).trans rfl) rfl ?_
      refine r_getR ((hp 50).trans rfl) (tr_o ht0 hw) (tr_h ht0 hw) ?_
      refine am_R.next ((hp 53).trans rfl) rfl ?_
      refine am_R.next ((hp 54).trans rfl) rfl ?_
      obtain ⟨c8, H⟩ := H
      obtain ⟨h9, eh9⟩ : ∃ z : am_H, z = am_put h (t0 + 1) x1.toNat y7 := ⟨_, rfl⟩
      have H := H h9 eh9
      refine r_last ((hp 56).trans rfl) (tr_ha ht0 hw c8.1 c8.2) ?_
      have hw : wf h9 := by rw [eh9]; exact hw.pa (tr_lt ht0).2.2.2.2
      change am_R _ _ _ _ _ _ (am_put h (t0 + 1) x1.toNat y7) _
      rw [← eh9]
      refine am_R.next ((hp 57).trans rfl) rfl ?_
      exact am_R.ret ((hp 59).trans rfl) rfl H
  · have H := H.2 (Decidable.not_not.mp c14)
    refine am_R.next ((hp 10).trans rfl) rfl ?_
    refine am_R.next ((hp 11).trans rfl) rfl ?_
    refine am_R.next ((hp 12).trans rfl) rfl ?_
    refine am_R.next ((hp 13).trans rfl) rfl ?_
    obtain ⟨y11, ey11⟩ : ∃ z : Int, z = Int.bmod (am_w x2) 256 := ⟨_, rfl⟩
    have H := H y11 ey11
    refine am_R.next (lv' := [some (.inr (.inr ((t0 : Nat) : Int))), some (.inl x1), some (.inr (.inl x2)), none, some (.inr (.inl y11)), none]) (st' := []) (h' := h) (pc' := 16) ((hp 14).trans rfl) (by rw [ey11]; rfl) ?_
    refine am_R.next ((hp 16).trans rfl) rfl ?_
    refine am_R.next ((hp 49).trans rfl) rfl ?_
    refine r_getR ((hp 50).trans rfl) (tr_o ht0 hw) (tr_h ht0 hw) ?_
    refine am_R.next ((hp 53).trans rfl) rfl ?_
    refine am_R.next ((hp 54).trans rfl) rfl ?_
    obtain ⟨c12, H⟩ := H
    obtain ⟨h13, eh13⟩ : ∃ z : am_H, z = am_put h (t0 + 1) x1.toNat y11 := ⟨_, rfl⟩
    have H := H h13 eh13
    refine r_last ((hp 56).trans rfl) (tr_ha ht0 hw c12.1 c12.2) ?_
    have hw : wf h13 := by rw [eh13]; exact hw.pa (tr_lt ht0).2.2.2.2
    change am_R _ _ _ _ _ _ (am_put h (t0 + 1) x1.toNat y11) _
    rw [← eh13]
    refine am_R.next ((hp 57).trans rfl) rfl ?_
    exact am_R.ret ((hp 59).trans rfl) rfl H
theorem w_Tray_rowRefusal_0 {scr : Nat × (Nat → Int)} {d : Nat} {h : am_H} {Q : Option am_V → am_H → Prop} {x1 x2 : Int} {t0 : Nat} (ht0 : t0 ∈ TR) (hs : am_sc scr) (hw : wf h) (H : ((h.2.2.2 t0 2) < 1 → (Q (some (.inl (-4))) h)) ∧ (¬ ((h.2.2.2 t0 2) < 1) → (((h.2.2.2 t0 2) ≤ 8 → (am_R (am_prog scr) d f_Tray_rowRefusal 22 [some (.inr (.inr ((t0 : Nat) : Int))), some (.inl x1), some (.inl x2), some (.inl 0)] [] h Q)) ∧ (¬ ((h.2.2.2 t0 2) ≤ 8) → (Q (some (.inl (-4))) h))))) : am_R (am_prog scr) d f_Tray_rowRefusal 0 [some (.inr (.inr ((t0 : Nat) : Int))), some (.inl x1), some (.inl x2), none] [] h Q := by
  have hp : ∀ k, (am_prog scr).1 f_Tray_rowRefusal k = c_Tray_rowRefusal k := fun _ => rfl
  refine am_R.next ((hp 0).trans rfl) rfl ?_
  refine r_getI ((hp 1).trans rfl) (tr_o ht0 hw) ?_
  refine am_R.next ((hp 4).trans rfl) rfl ?_
  refine r_ic ((hp 5).trans rfl) (fun c2 => ?_) (fun c2 => ?_)
  · have H := H.1 c2
    refine am_R.next ((hp 17).trans rfl) rfl ?_
    exact am_R.ret ((hp 19).trans rfl) rfl H
  · have H := H.2 c2
    refine am_R.next ((hp 8).trans rfl) rfl ?_
    refine r_getI ((hp 9).trans rfl) (tr_o ht0 hw) ?_
    refine am_R.next ((hp 12).trans rfl) rfl ?_
    refine r_ic ((hp 14).trans rfl) (fun c1 => ?_) (fun c1 => ?_)
    · have H := H.1 c1
      refine am_R.next ((hp 20).trans rfl) rfl ?_
      refine am_R.next (lv' := [some (.inr (.inr ((t0 : Nat) : Int))), some (.inl x1), some (.inl x2), some (.inl 0)]) ((hp 21).trans rfl) rfl ?_
      exact H
    · have H := H.2 c1
      refine am_R.next ((hp 17).trans rfl) rfl ?_
      exact am_R.ret ((hp 19).trans rfl) rfl H
theorem w_Tray_rowRefusal_22 {scr : Nat × (Nat → Int)} {d : Nat} {h : am_H} {Q : Option am_V → am_H → Prop} {x1 x2 x3 : Int} {t0 : Nat} (ht0 : t0 ∈ TR) (hs : am_sc scr) (hw : wf h) (H : (¬ (x3 < (h.2.2.2 t0 2)) → (Q (some (.inl 0)) h)) ∧ (x3 < (h.2.2.2 t0 2) → ((0 ≤ x3 ∧ x3 < 40) ∧ (((h.2.2.2 (t0 + 1) x3.toNat) < x1 → (Q (some (.inl (-3))) h)) ∧ (¬ ((h.2.2.2 (t0 + 1) x3.toNat) < x1) → ((0 ≤ x3 ∧ x3 < 40) ∧ (((h.2.2.2 (t0 + 1) x3.toNat) < x2 → (∀ y3 : Int, y3 = am_w (x3 + 1) → (am_R (am_prog scr) d f_Tray_rowRefusal 22 [some (.inr (.inr ((t0 : Nat) : Int))), some (.inl x1), some (.inl x2), some (.inl y3)] [] h Q))) ∧ (¬ ((h.2.2.2 (t0 + 1) x3.toNat) < x2) → (Q (some (.inl (-3))) h))))))))) : am_R (am_prog scr) d f_Tray_rowRefusal 22 [some (.inr (.inr ((t0 : Nat) : Int))), some (.inl x1), some (.inl x2), some (.inl x3)] [] h Q := by
  have hp : ∀ k, (am_prog scr).1 f_Tray_rowRefusal k = c_Tray_rowRefusal k := fun _ => rfl
  refine am_R.next ((hp 22).trans rfl) rfl ?_
  refine am_R.next ((hp 23).trans rfl) rfl ?_
  refine r_getI ((hp 24).trans rfl) (tr_o ht0 hw) ?_
  refine r_ic ((hp 27).trans rfl) (fun c6 => ?_) (fun c6 => ?_)
  · have H := H.1 c6
    refine am_R.next ((hp 63).trans rfl) rfl ?_
    exact am_R.ret ((hp 64).trans rfl) rfl H
  · have H := H.2 (Decidable.not_not.mp c6)
    refine am_R.next ((hp 30).trans rfl) rfl ?_
    refine r_getR ((hp 31).trans rfl) (tr_o ht0 hw) (tr_h ht0 hw) ?_
    refine am_R.next ((hp 34).trans rfl) rfl ?_
    obtain ⟨c1, H⟩ := H
    refine r_lald ((hp 35).trans rfl) (tr_ha ht0 hw c1.1 c1.2) ?_
    refine am_R.next ((hp 36).trans rfl) rfl ?_
    refine am_R.next ((hp 37).trans rfl) rfl ?_
    refine am_R.next ((hp 38).trans rfl) rfl ?_
    refine r_if ((hp 39).trans rfl) (fun c5 => ?_) (fun c5 => ?_)
    · have H := H.1 (lc_ltt c5)
      refine am_R.next ((hp 54).trans rfl) rfl ?_
      exact am_R.ret ((hp 56).trans rfl) rfl H
    · have H := H.2 (lc_ltf c5)
      refine am_R.next ((hp 42).trans rfl) rfl ?_
      refine r_getR ((hp 43).trans rfl) (tr_o ht0 hw) (tr_h ht0 hw) ?_
      refine am_R.next ((hp 46).trans rfl) rfl ?_
      obtain ⟨c2, H⟩ := H
      refine r_lald ((hp 47).trans rfl) (tr_ha ht0 hw c2.1 c2.2) ?_
      refine am_R.next ((hp 48).trans rfl) rfl ?_
      refine am_R.next ((hp 49).trans rfl) rfl ?_
      refine am_R.next ((hp 50).trans rfl) rfl ?_
      refine r_if ((hp 51).trans rfl) (fun c4 => ?_) (fun c4 => ?_)
      · have H := H.1 (lc_ltt c4)
        obtain ⟨y3, ey3⟩ : ∃ z : Int, z = am_w (x3 + 1) := ⟨_, rfl⟩
        have H := H y3 ey3
        refine am_R.next (lv' := [some (.inr (.inr ((t0 : Nat) : Int))), some (.inl x1), some (.inl x2), some (.inl y3)]) (st' := []) (h' := h) (pc' := 60) ((hp 57).trans rfl) (by rw [ey3]; rfl) ?_
        refine am_R.next ((hp 60).trans rfl) rfl ?_
        exact H
      · have H := H.2 (lc_ltf c4)
        refine am_R.next ((hp 54).trans rfl) rfl ?_
        exact am_R.ret ((hp 56).trans rfl) rfl H
