/-! the JDK: what the stretches ask for (printed by program) -/
theorem lc_eqt {a b : Int} (h : (if a < b then -1 else if a = b then 0 else 1 : Int) = 0) : a = b := by
  split at h
  · omega
  · split at h <;> omega
theorem lc_eqf {a b : Int} (h : ¬ (if a < b then -1 else if a = b then 0 else 1 : Int) = 0) : ¬ a = b := by
  split at h
  · omega
  · split at h <;> omega
theorem lc_ltt {a b : Int} (h : (if a < b then -1 else if a = b then 0 else 1 : Int) < 0) : a < b := by
  split at h
  · omega
  · split at h <;> omega
theorem lc_ltf {a b : Int} (h : ¬ (if a < b then -1 else if a = b then 0 else 1 : Int) < 0) : ¬ a < b := by
  split at h
  · omega
  · split at h <;> omega
theorem lc_gtt {a b : Int} (h : 0 < (if a < b then -1 else if a = b then 0 else 1 : Int)) : b < a := by
  split at h
  · omega
  · split at h <;> omega
theorem lc_gtf {a b : Int} (h : ¬ 0 < (if a < b then -1 else if a = b then 0 else 1 : Int)) : ¬ b < a := by
  split at h
  · omega
  · split at h <;> omega
theorem lc_let {a b : Int} (h : (if a < b then -1 else if a = b then 0 else 1 : Int) ≤ 0) : ¬ b < a := by
  split at h
  · omega
  · split at h <;> omega
theorem lc_lef {a b : Int} (h : ¬ (if a < b then -1 else if a = b then 0 else 1 : Int) ≤ 0) : b < a := by
  split at h
  · omega
  · split at h <;> omega
theorem lc_net {a b : Int} (h : ¬ (if a < b then -1 else if a = b then 0 else 1 : Int) = 0) : ¬ a = b := lc_eqf h
theorem lc_nef {a b : Int} (h : ¬ ¬ (if a < b then -1 else if a = b then 0 else 1 : Int) = 0) : a = b := lc_eqt (Decidable.not_not.mp h)
theorem lc_get {a b : Int} (h : ¬ (if a < b then -1 else if a = b then 0 else 1 : Int) < 0) : ¬ a < b := lc_ltf h
theorem lc_gef {a b : Int} (h : ¬ ¬ (if a < b then -1 else if a = b then 0 else 1 : Int) < 0) : a < b := lc_ltt (Decidable.not_not.mp h)
theorem w_jM_floorMod_0 {scr : Nat × (Nat → Int)} {d : Nat} {h : am_H} {Q : Option am_V → am_H → Prop} {x0 x1 : Int} (hs : am_sc scr) (hw : wf h) (H : x1 ≠ 0 ∧ (∀ y1 : Int, y1 = x0.tmod x1 → ((¬ ((am_xor x0 x1) < 0) → (Q (some (.inl y1)) h)) ∧ ((am_xor x0 x1) < 0 → ((y1 = 0 → (Q (some (.inl y1)) h)) ∧ (¬ (y1 = 0) → (Q (some (.inl (am_w (y1 + x1)))) h))))))) : am_R (am_prog scr) d f_jM_floorMod 0 [some (.inl x0), some (.inl x1), none] [] h Q := by
  have hp : ∀ k, (am_prog scr).1 f_jM_floorMod k = c_jM_floorMod k := fun _ => rfl
  refine am_R.next ((hp 0).trans rfl) rfl ?_
  refine am_R.next ((hp 1).trans rfl) rfl ?_
  obtain ⟨c4, H⟩ := H
  refine r_i2z ((hp 2).trans rfl) c4 ?_
  obtain ⟨y1, ey1⟩ : ∃ z : Int, z = x0.tmod x1 := ⟨_, rfl⟩
  have H := H y1 ey1
  refine am_R.next (lv' := [some (.inl x0), some (.inl x1), some (.inl y1)]) (st' := []) (h' := h) (pc' := 4) ((hp 3).trans rfl) (by rw [ey1]; rfl) ?_
  refine am_R.next ((hp 4).trans rfl) rfl ?_
  refine am_R.next ((hp 5).trans rfl) rfl ?_
  refine am_R.next ((hp 6).trans rfl) rfl ?_
  refine r_if ((hp 7).trans rfl) (fun c3 => ?_) (fun c3 => ?_)
  · have H := H.1 c3
    refine am_R.next ((hp 18).trans rfl) rfl ?_
    exact am_R.ret ((hp 19).trans rfl) rfl H
  · have H := H.2 (Decidable.not_not.mp c3)
    refine am_R.next ((hp 10).trans rfl) rfl ?_
    refine r_if ((hp 11).trans rfl) (fun c2 => ?_) (fun c2 => ?_)
    · have H := H.1 c2
      refine am_R.next ((hp 18).trans rfl) rfl ?_
      exact am_R.ret ((hp 19).trans rfl) rfl H
    · have H := H.2 c2
      refine am_R.next ((hp 14).trans rfl) rfl ?_
      refine am_R.next ((hp 15).trans rfl) rfl ?_
      refine am_R.next ((hp 16).trans rfl) rfl ?_
      exact am_R.ret ((hp 17).trans rfl) rfl H
theorem w_jM_abs_0 {scr : Nat × (Nat → Int)} {d : Nat} {h : am_H} {Q : Option am_V → am_H → Prop} {x0 : Int} (hs : am_sc scr) (hw : wf h) (H : (¬ (x0 < 0) → (Q (some (.inl x0)) h)) ∧ (x0 < 0 → (Q (some (.inl (am_w (-x0)))) h))) : am_R (am_prog scr) d f_jM_abs 0 [some (.inl x0)] [] h Q := by
  have hp : ∀ k, (am_prog scr).1 f_jM_abs k = c_jM_abs k := fun _ => rfl
  refine am_R.next ((hp 0).trans rfl) rfl ?_
  refine r_if ((hp 1).trans rfl) (fun c1 => ?_) (fun c1 => ?_)
  · have H := H.1 c1
    refine am_R.next ((hp 9).trans rfl) rfl ?_
    exact am_R.ret ((hp 10).trans rfl) rfl H
  · have H := H.2 (Decidable.not_not.mp c1)
    refine am_R.next ((hp 4).trans rfl) rfl ?_
    refine am_R.next ((hp 5).trans rfl) rfl ?_
    refine am_R.next ((hp 6).trans rfl) rfl ?_
    exact am_R.ret ((hp 10).trans rfl) rfl H
theorem w_jM_max_0 {scr : Nat × (Nat → Int)} {d : Nat} {h : am_H} {Q : Option am_V → am_H → Prop} {x0 x1 : Int} (hs : am_sc scr) (hw : wf h) (H : (x0 < x1 → (Q (some (.inl x1)) h)) ∧ (¬ (x0 < x1) → (Q (some (.inl x0)) h))) : am_R (am_prog scr) d f_jM_max 0 [some (.inl x0), some (.inl x1)] [] h Q := by
  have hp : ∀ k, (am_prog scr).1 f_jM_max k = c_jM_max k := fun _ => rfl
  refine am_R.next ((hp 0).trans rfl) rfl ?_
  refine am_R.next ((hp 1).trans rfl) rfl ?_
  refine r_ic ((hp 2).trans rfl) (fun c1 => ?_) (fun c1 => ?_)
  · have H := H.1 c1
    refine am_R.next ((hp 9).trans rfl) rfl ?_
    exact am_R.ret ((hp 10).trans rfl) rfl H
  · have H := H.2 c1
    refine am_R.next ((hp 5).trans rfl) rfl ?_
    refine am_R.next ((hp 6).trans rfl) rfl ?_
    exact am_R.ret ((hp 10).trans rfl) rfl H
theorem w_jM_min_0 {scr : Nat × (Nat → Int)} {d : Nat} {h : am_H} {Q : Option am_V → am_H → Prop} {x0 x1 : Int} (hs : am_sc scr) (hw : wf h) (H : (x1 < x0 → (Q (some (.inl x1)) h)) ∧ (¬ (x1 < x0) → (Q (some (.inl x0)) h))) : am_R (am_prog scr) d f_jM_min 0 [some (.inl x0), some (.inl x1)] [] h Q := by
  have hp : ∀ k, (am_prog scr).1 f_jM_min k = c_jM_min k := fun _ => rfl
  refine am_R.next ((hp 0).trans rfl) rfl ?_
  refine am_R.next ((hp 1).trans rfl) rfl ?_
  refine r_ic ((hp 2).trans rfl) (fun c1 => ?_) (fun c1 => ?_)
  · have H := H.1 c1
    refine am_R.next ((hp 9).trans rfl) rfl ?_
    exact am_R.ret ((hp 10).trans rfl) rfl H
  · have H := H.2 c1
    refine am_R.next ((hp 5).trans rfl) rfl ?_
    refine am_R.next ((hp 6).trans rfl) rfl ?_
    exact am_R.ret ((hp 10).trans rfl) rfl H
theorem w_jS_length_0 {scr : Nat × (Nat → Int)} {d : Nat} {h : am_H} {Q : Option am_V → am_H → Prop} {a0 : Int} (hs : am_sc scr) (hw : wf h) (H : (a0 ≤ -2 ∧ -2 - ((am_tx.length : Nat) : Int) < a0) ∧ (((a0 - 498) ≤ -500 ∧ -500 - ((am_tx.length : Nat) : Int) < (a0 - 498)) ∧ ((a0 ≤ -2 ∧ -2 - ((am_tx.length : Nat) : Int) < a0) ∧ (am_R (am_prog scr) d f_jS_coder 0 [some (.inr (.inr a0))] [] h (fun v g3 => ∃ r5 : Int, v = some (.inl r5) ∧ wf g3 ∧ (Q (some (.inl (am_shr (((am_tx.getD (-500 - (a0 - 498)).toNat []).length : Nat) : Int) r5))) g3)))))) : am_R (am_prog scr) (d + 1) f_jS_length 0 [some (.inr (.inr a0))] [] h Q := by
  have hp : ∀ k, (am_prog scr).1 f_jS_length k = c_jS_length k := fun _ => rfl
  refine am_R.next ((hp 0).trans rfl) rfl ?_
  obtain ⟨c1, H⟩ := H
  refine r_tval ((hp 1).trans rfl) c1 ?_
  obtain ⟨c2, H⟩ := H
  refine r_tlen ((hp 4).trans rfl) c2 ?_
  refine am_R.next ((hp 5).trans rfl) rfl ?_
  obtain ⟨c4, H⟩ := H
  refine r_ct (bs := []) (st' := [.inl (((am_tx.getD (-500 - (a0 - 498)).toNat []).length : Nat) : Int)]) ((hp 6).trans rfl) c4 rfl rfl (Nat.le_of_ble_eq_true rfl) (Nat.le_of_ble_eq_true rfl) (am_R.post H (fun v g3 hq => ?_))
  obtain ⟨r5, rfl, hw, H⟩ := hq
  change am_R _ _ _ _ _ [.inl r5, .inl (((am_tx.getD (-500 - (a0 - 498)).toNat []).length : Nat) : Int)] _ _
  refine am_R.next ((hp 9).trans rfl) rfl ?_
  exact am_R.ret ((hp 10).trans rfl) rfl H
theorem w_jS_charAt_0 {scr : Nat × (Nat → Int)} {d : Nat} {h : am_H} {Q : Option am_V → am_H → Prop} {x1 a0 : Int} (hs : am_sc scr) (hw : wf h) (H : (a0 ≤ -2 ∧ -2 - ((am_tx.length : Nat) : Int) < a0) ∧ (am_R (am_prog scr) d f_jS_isLatin1 0 [some (.inr (.inr a0))] [] h (fun v g1 => ∃ r3 : Int, v = some (.inl r3) ∧ wf g1 ∧ ((r3 = 0 → ((a0 ≤ -2 ∧ -2 - ((am_tx.length : Nat) : Int) < a0) ∧ (False))) ∧ (¬ (r3 = 0) → ((a0 ≤ -2 ∧ -2 - ((am_tx.length : Nat) : Int) < a0) ∧ (am_R (am_prog scr) d f_jL_charAt 0 [some (.inr (.inr (a0 - 498))), some (.inl x1)] [] g1 (fun v g6 => ∃ r7 : Int, v = some (.inl r7) ∧ wf g6 ∧ ((0 ≤ r7 ∧ r7 < 128) ∧ Q (some (.inl r7)) g6))))))))) : am_R (am_prog scr) (d + 1) f_jS_charAt 0 [some (.inr (.inr a0)), some (.inl x1)] [] h Q := by
  have hp : ∀ k, (am_prog scr).1 f_jS_charAt k = c_jS_charAt k := fun _ => rfl
  refine am_R.next ((hp 0).trans rfl) rfl ?_
  obtain ⟨c2, H⟩ := H
  refine r_ct (bs := []) (st' := []) ((hp 1).trans rfl) c2 rfl rfl (Nat.le_of_ble_eq_true rfl) (Nat.le_of_ble_eq_true rfl) (am_R.post H (fun v g1 hq => ?_))
  obtain ⟨r3, rfl, hw, H⟩ := hq
  change am_R _ _ _ _ _ [.inl r3] _ _
  refine r_if ((hp 4).trans rfl) (fun c9 => ?_) (fun c9 => ?_)
  · have H := H.1 c9
    refine am_R.next ((hp 16).trans rfl) rfl ?_
    obtain ⟨c4, H⟩ := H
    refine r_tval ((hp 17).trans rfl) c4 ?_
    refine am_R.next ((hp 20).trans rfl) rfl ?_
    exact H.elim
  · have H := H.2 c9
    refine am_R.next ((hp 7).trans rfl) rfl ?_
    obtain ⟨c5, H⟩ := H
    refine r_tval ((hp 8).trans rfl) c5 ?_
    refine am_R.next ((hp 11).trans rfl) rfl ?_
    refine r_cs (as := [.inr (.inr (a0 - 498)), .inl x1]) (st' := []) ((hp 12).trans rfl) rfl rfl (Nat.le_of_ble_eq_true rfl) (Nat.le_of_ble_eq_true rfl) (am_R.post H (fun v g6 hq => ?_))
    obtain ⟨r7, rfl, hw, H⟩ := hq
    change am_R _ _ _ _ _ [.inl r7] _ _
    obtain ⟨c8, H⟩ := H
    exact r_cret ((hp 15).trans rfl) c8 H
theorem w_jS_indexOf_0 {scr : Nat × (Nat → Int)} {d : Nat} {h : am_H} {Q : Option am_V → am_H → Prop} {x1 a0 : Int} (hs : am_sc scr) (hw : wf h) (H : (a0 ≤ -2 ∧ -2 - ((am_tx.length : Nat) : Int) < a0) ∧ (am_R (am_prog scr) d f_jS_indexOf2 0 [some (.inr (.inr a0)), some (.inl x1), some (.inl 0)] [] h (fun v g1 => ∃ r3 : Int, v = some (.inl r3) ∧ wf g1 ∧ (Q (some (.inl r3)) g1)))) : am_R (am_prog scr) (d + 1) f_jS_indexOf 0 [some (.inr (.inr a0)), some (.inl x1)] [] h Q := by
  have hp : ∀ k, (am_prog scr).1 f_jS_indexOf k = c_jS_indexOf k := fun _ => rfl
  refine am_R.next ((hp 0).trans rfl) rfl ?_
  refine am_R.next ((hp 1).trans rfl) rfl ?_
  refine am_R.next ((hp 2).trans rfl) rfl ?_
  obtain ⟨c2, H⟩ := H
  refine r_ct (bs := [.inl x1, .inl 0]) (st' := []) ((hp 3).trans rfl) c2 rfl rfl (Nat.le_of_ble_eq_true rfl) (Nat.le_of_ble_eq_true rfl) (am_R.post H (fun v g1 hq => ?_))
  obtain ⟨r3, rfl, hw, H⟩ := hq
  change am_R _ _ _ _ _ [.inl r3] _ _
  exact am_R.ret ((hp 6).trans rfl) rfl H
theorem w_jS_indexOf2_0 {scr : Nat × (Nat → Int)} {d : Nat} {h : am_H} {Q : Option am_V → am_H → Prop} {x1 x2 a0 : Int} (hs : am_sc scr) (hw : wf h) (H : (a0 ≤ -2 ∧ -2 - ((am_tx.length : Nat) : Int) < a0) ∧ (am_R (am_prog scr) d f_jS_isLatin1 0 [some (.inr (.inr a0))] [] h (fun v g1 => ∃ r3 : Int, v = some (.inl r3) ∧ wf g1 ∧ ((r3 = 0 → ((a0 ≤ -2 ∧ -2 - ((am_tx.length : Nat) : Int) < a0) ∧ ((a0 ≤ -2 ∧ -2 - ((am_tx.length : Nat) : Int) < a0) ∧ (am_R (am_prog scr) d f_jS_length 0 [some (.inr (.inr a0))] [] g1 (fun v g5 => ∃ r7 : Int, v = some (.inl r7) ∧ wf g5 ∧ (False)))))) ∧ (¬ (r3 = 0) → ((a0 ≤ -2 ∧ -2 - ((am_tx.length : Nat) : Int) < a0) ∧ ((a0 ≤ -2 ∧ -2 - ((am_tx.length : Nat) : Int) < a0) ∧ (am_R (am_prog scr) d f_jS_length 0 [some (.inr (.inr a0))] [] g1 (fun v g9 => ∃ r11 : Int, v = some (.inl r11) ∧ wf g9 ∧ (am_R (am_prog scr) d f_jL_indexOf 0 [some (.inr (.inr (a0 - 498))), some (.inl x1), some (.inl x2), some (.inl r11)] [] g9 (fun v g12 => ∃ r13 : Int, v = some (.inl r13) ∧ wf g12 ∧ (Q (some (.inl r13)) g12)))))))))))) : am_R (am_prog scr) (d + 1) f_jS_indexOf2 0 [some (.inr (.inr a0)), some (.inl x1), some (.inl x2)] [] h Q := by
  have hp : ∀ k, (am_prog scr).1 f_jS_indexOf2 k = c_jS_indexOf2 k := fun _ => rfl
  refine am_R.next ((hp 0).trans rfl) rfl ?_
  obtain ⟨c2, H⟩ := H
  refine r_ct (bs := []) (st' := []) ((hp 1).trans rfl) c2 rfl rfl (Nat.le_of_ble_eq_true rfl) (Nat.le_of_ble_eq_true rfl) (am_R.post H (fun v g1 hq => ?_))
  obtain ⟨r3, rfl, hw, H⟩ := hq
  change am_R _ _ _ _ _ [.inl r3] _ _
  refine r_if ((hp 4).trans rfl) (fun c14 => ?_) (fun c14 => ?_)
  · have H := H.1 c14
    refine am_R.next ((hp 23).trans rfl) rfl ?_
    obtain ⟨c4, H⟩ := H
    refine r_tval ((hp 24).trans rfl) c4 ?_
    refine am_R.next ((hp 27).trans rfl) rfl ?_
    refine am_R.next ((hp 28).trans rfl) rfl ?_
    refine am_R.next ((hp 29).trans rfl) rfl ?_
    obtain ⟨c6, H⟩ := H
    refine r_ct (bs := []) (st' := [.inl x2, .inl x1, .inr (.inr (a0 - 498))]) ((hp 30).trans rfl) c6 rfl rfl (Nat.le_of_ble_eq_true rfl) (Nat.le_of_ble_eq_true rfl) (am_R.post H (fun v g5 hq => ?_))
    obtain ⟨r7, rfl, hw, H⟩ := hq
    change am_R _ _ _ _ _ [.inl r7, .inl x2, .inl x1, .inr (.inr (a0 - 498))] _ _
    exact H.elim
  · have H := H.2 c14
    refine am_R.next ((hp 7).trans rfl) rfl ?_
    obtain ⟨c8, H⟩ := H
    refine r_tval ((hp 8).trans rfl) c8 ?_
    refine am_R.next ((hp 11).trans rfl) rfl ?_
    refine am_R.next ((hp 12).trans rfl) rfl ?_
    refine am_R.next ((hp 13).trans rfl) rfl ?_
    obtain ⟨c10, H⟩ := H
    refine r_ct (bs := []) (st' := [.inl x2, .inl x1, .inr (.inr (a0 - 498))]) ((hp 14).trans rfl) c10 rfl rfl (Nat.le_of_ble_eq_true rfl) (Nat.le_of_ble_eq_true rfl) (am_R.post H (fun v g9 hq => ?_))
    obtain ⟨r11, rfl, hw, H⟩ := hq
    change am_R _ _ _ _ _ [.inl r11, .inl x2, .inl x1, .inr (.inr (a0 - 498))] _ _
    refine r_cs (as := [.inr (.inr (a0 - 498)), .inl x1, .inl x2, .inl r11]) (st' := []) ((hp 17).trans rfl) rfl rfl (Nat.le_of_ble_eq_true rfl) (Nat.le_of_ble_eq_true rfl) (am_R.post H (fun v g12 hq => ?_))
    obtain ⟨r13, rfl, hw, H⟩ := hq
    change am_R _ _ _ _ _ [.inl r13] _ _
    refine am_R.next ((hp 20).trans rfl) rfl ?_
    exact am_R.ret ((hp 36).trans rfl) rfl H
theorem w_jS_coder_0 {scr : Nat × (Nat → Int)} {d : Nat} {h : am_H} {Q : Option am_V → am_H → Prop} {a0 : Int} (hs : am_sc scr) (hw : wf h) (H : ((1 : Int) = 0 → (Q (some (.inl 1)) h)) ∧ (¬ ((1 : Int) = 0) → ((a0 ≤ -2 ∧ -2 - ((am_tx.length : Nat) : Int) < a0) ∧ (Q (some (.inl 0)) h)))) : am_R (am_prog scr) d f_jS_coder 0 [some (.inr (.inr a0))] [] h Q := by
  have hp : ∀ k, (am_prog scr).1 f_jS_coder k = c_jS_coder k := fun _ => rfl
  refine am_R.next ((hp 0).trans rfl) rfl ?_
  refine r_if ((hp 3).trans rfl) (fun c2 => ?_) (fun c2 => ?_)
  · have H := H.1 c2
    refine am_R.next ((hp 13).trans rfl) rfl ?_
    exact r_zret ((hp 14).trans rfl) (Or.inr rfl) H
  · have H := H.2 c2
    refine am_R.next ((hp 6).trans rfl) rfl ?_
    obtain ⟨c1, H⟩ := H
    refine r_tcod ((hp 7).trans rfl) c1 ?_
    refine am_R.next ((hp 10).trans rfl) rfl ?_
    exact r_zret ((hp 14).trans rfl) (Or.inl rfl) H
theorem w_jS_isLatin1_0 {scr : Nat × (Nat → Int)} {d : Nat} {h : am_H} {Q : Option am_V → am_H → Prop} {a0 : Int} (hs : am_sc scr) (hw : wf h) (H : ((1 : Int) = 0 → (Q (some (.inl 0)) h)) ∧ (¬ ((1 : Int) = 0) → ((a0 ≤ -2 ∧ -2 - ((am_tx.length : Nat) : Int) < a0) ∧ ((¬ ((0 : Int) = 0) → (Q (some (.inl 0)) h)) ∧ ((0 : Int) = 0 → (Q (some (.inl 1)) h)))))) : am_R (am_prog scr) d f_jS_isLatin1 0 [some (.inr (.inr a0))] [] h Q := by
  have hp : ∀ k, (am_prog scr).1 f_jS_isLatin1 k = c_jS_isLatin1 k := fun _ => rfl
  refine am_R.next ((hp 0).trans rfl) rfl ?_
  refine r_if ((hp 3).trans rfl) (fun c3 => ?_) (fun c3 => ?_)
  · have H := H.1 c3
    refine am_R.next ((hp 17).trans rfl) rfl ?_
    exact r_zret ((hp 18).trans rfl) (Or.inl rfl) H
  · have H := H.2 c3
    refine am_R.next ((hp 6).trans rfl) rfl ?_
    obtain ⟨c1, H⟩ := H
    refine r_tcod ((hp 7).trans rfl) c1 ?_
    refine r_if ((hp 10).trans rfl) (fun c2 => ?_) (fun c2 => ?_)
    · have H := H.1 c2
      refine am_R.next ((hp 17).trans rfl) rfl ?_
      exact r_zret ((hp 18).trans rfl) (Or.inl rfl) H
    · have H := H.2 (Decidable.not_not.mp c2)
      refine am_R.next ((hp 13).trans rfl) rfl ?_
      refine am_R.next ((hp 14).trans rfl) rfl ?_
      exact r_zret ((hp 18).trans rfl) (Or.inr rfl) H
theorem w_jS_checkIndex_0 {scr : Nat × (Nat → Int)} {d : Nat} {h : am_H} {Q : Option am_V → am_H → Prop} {x0 x1 : Int} (hs : am_sc scr) (hw : wf h) (H : am_R (am_prog scr) d f_jP_checkIndex 0 [some (.inl x0), some (.inl x1), some (.inr (.inr (-900)))] [] h (fun v g1 => ∃ r2 : Int, v = some (.inl r2) ∧ wf g1 ∧ (Q none g1))) : am_R (am_prog scr) (d + 1) f_jS_checkIndex 0 [some (.inl x0), some (.inl x1)] [] h Q := by
  have hp : ∀ k, (am_prog scr).1 f_jS_checkIndex k = c_jS_checkIndex k := fun _ => rfl
  refine am_R.next ((hp 0).trans rfl) rfl ?_
  refine am_R.next ((hp 1).trans rfl) rfl ?_
  refine am_R.next ((hp 2).trans rfl) rfl ?_
  refine r_cs (as := [.inl x0, .inl x1, .inr (.inr (-900))]) (st' := []) ((hp 5).trans rfl) rfl rfl (Nat.le_of_ble_eq_true rfl) (Nat.le_of_ble_eq_true rfl) (am_R.post H (fun v g1 hq => ?_))
  obtain ⟨r2, rfl, hw, H⟩ := hq
  change am_R _ _ _ _ _ [.inl r2] _ _
  refine am_R.next ((hp 8).trans rfl) rfl ?_
  exact am_R.ret ((hp 9).trans rfl) rfl H
theorem w_jS_checkBoundsBeginEnd_0 {scr : Nat × (Nat → Int)} {d : Nat} {h : am_H} {Q : Option am_V → am_H → Prop} {x0 x1 x2 : Int} (hs : am_sc scr) (hw : wf h) (H : am_R (am_prog scr) d f_jP_checkFromToIndex 0 [some (.inl x0), some (.inl x1), some (.inl x2), some (.inr (.inr (-900)))] [] h (fun v g1 => ∃ r2 : Int, v = some (.inl r2) ∧ wf g1 ∧ (Q none g1))) : am_R (am_prog scr) (d + 1) f_jS_checkBoundsBeginEnd 0 [some (.inl x0), some (.inl x1), some (.inl x2)] [] h Q := by
  have hp : ∀ k, (am_prog scr).1 f_jS_checkBoundsBeginEnd k = c_jS_checkBoundsBeginEnd k := fun _ => rfl
  refine am_R.next ((hp 0).trans rfl) rfl ?_
  refine am_R.next ((hp 1).trans rfl) rfl ?_
  refine am_R.next ((hp 2).trans rfl) rfl ?_
  refine am_R.next ((hp 3).trans rfl) rfl ?_
  refine r_cs (as := [.inl x0, .inl x1, .inl x2, .inr (.inr (-900))]) (st' := []) ((hp 6).trans rfl) rfl rfl (Nat.le_of_ble_eq_true rfl) (Nat.le_of_ble_eq_true rfl) (am_R.post H (fun v g1 hq => ?_))
  obtain ⟨r2, rfl, hw, H⟩ := hq
  change am_R _ _ _ _ _ [.inl r2] _ _
  refine am_R.next ((hp 9).trans rfl) rfl ?_
  exact am_R.ret ((hp 10).trans rfl) rfl H
theorem w_jL_charAt_0 {scr : Nat × (Nat → Int)} {d : Nat} {h : am_H} {Q : Option am_V → am_H → Prop} {x1 a0 : Int} (hs : am_sc scr) (hw : wf h) (H : (a0 ≤ -500 ∧ -500 - ((am_tx.length : Nat) : Int) < a0) ∧ (am_R (am_prog scr) d f_jS_checkIndex 0 [some (.inl x1), some (.inl (((am_tx.getD (-500 - a0).toNat []).length : Nat) : Int))] [] h (fun v g2 => v = none ∧ wf g2 ∧ ((a0 ≤ -500 ∧ -500 - ((am_tx.length : Nat) : Int) < a0 ∧ 0 ≤ x1 ∧ x1 < (((am_tx.getD (-500 - a0).toNat []).length : Nat) : Int)) ∧ ((0 ≤ (am_i2c (am_and ((am_tx.getD (-500 - a0).toNat []).getD x1.toNat 0) 255)) ∧ (am_i2c (am_and ((am_tx.getD (-500 - a0).toNat []).getD x1.toNat 0) 255)) < 128) ∧ Q (some (.inl (am_i2c (am_and ((am_tx.getD (-500 - a0).toNat []).getD x1.toNat 0) 255)))) g2))))) : am_R (am_prog scr) (d + 1) f_jL_charAt 0 [some (.inr (.inr a0)), some (.inl x1)] [] h Q := by
  have hp : ∀ k, (am_prog scr).1 f_jL_charAt k = c_jL_charAt k := fun _ => rfl
  refine am_R.next ((hp 0).trans rfl) rfl ?_
  refine am_R.next ((hp 1).trans rfl) rfl ?_
  obtain ⟨c1, H⟩ := H
  refine r_tlen ((hp 2).trans rfl) c1 ?_
  refine r_cs (as := [.inl x1, .inl (((am_tx.getD (-500 - a0).toNat []).length : Nat) : Int)]) (st' := []) ((hp 3).trans rfl) rfl rfl (Nat.le_of_ble_eq_true rfl) (Nat.le_of_ble_eq_true rfl) (am_R.post H (fun v g2 hq => ?_))
  obtain ⟨rfl, hw, H⟩ := hq
  change am_R _ _ _ _ _ [] _ _
  refine am_R.next ((hp 6).trans rfl) rfl ?_
  refine am_R.next ((hp 7).trans rfl) rfl ?_
  obtain ⟨c3, H⟩ := H
  refine r_tald ((hp 8).trans rfl) c3 ?_
  refine am_R.next ((hp 9).trans rfl) rfl ?_
  refine am_R.next ((hp 12).trans rfl) rfl ?_
  refine am_R.next ((hp 13).trans rfl) rfl ?_
  obtain ⟨c4, H⟩ := H
  exact r_cret ((hp 14).trans rfl) c4 H
theorem w_jL_canEncode_0 {scr : Nat × (Nat → Int)} {d : Nat} {h : am_H} {Q : Option am_V → am_H → Prop} {x0 : Int} (hs : am_sc scr) (hw : wf h) (H : (x0 < 0 → (Q (some (.inl 0)) h)) ∧ (¬ (x0 < 0) → ((255 < x0 → (Q (some (.inl 0)) h)) ∧ (¬ (255 < x0) → (Q (some (.inl 1)) h))))) : am_R (am_prog scr) d f_jL_canEncode 0 [some (.inl x0)] [] h Q := by
  have hp : ∀ k, (am_prog scr).1 f_jL_canEncode k = c_jL_canEncode k := fun _ => rfl
  refine am_R.next ((hp 0).trans rfl) rfl ?_
  refine r_if ((hp 1).trans rfl) (fun c2 => ?_) (fun c2 => ?_)
  · have H := H.1 c2
    refine am_R.next ((hp 15).trans rfl) rfl ?_
    exact r_zret ((hp 16).trans rfl) (Or.inl rfl) H
  · have H := H.2 c2
    refine am_R.next ((hp 4).trans rfl) rfl ?_
    refine am_R.next ((hp 5).trans rfl) rfl ?_
    refine r_ic ((hp 8).trans rfl) (fun c1 => ?_) (fun c1 => ?_)
    · have H := H.1 c1
      refine am_R.next ((hp 15).trans rfl) rfl ?_
      exact r_zret ((hp 16).trans rfl) (Or.inl rfl) H
    · have H := H.2 c1
      refine am_R.next ((hp 11).trans rfl) rfl ?_
      refine am_R.next ((hp 12).trans rfl) rfl ?_
      exact r_zret ((hp 16).trans rfl) (Or.inr rfl) H
theorem w_jL_indexOf_0 {scr : Nat × (Nat → Int)} {d : Nat} {h : am_H} {Q : Option am_V → am_H → Prop} {x1 x2 x3 a0 : Int} (hs : am_sc scr) (hw : wf h) (H : am_R (am_prog scr) d f_jL_canEncode 0 [some (.inl x1)] [] h (fun v g1 => ∃ r2 : Int, v = some (.inl r2) ∧ wf g1 ∧ ((¬ (r2 = 0) → (am_R (am_prog scr) d f_jM_max 0 [some (.inl x2), some (.inl 0)] [] g1 (fun v g3 => ∃ r4 : Int, v = some (.inl r4) ∧ wf g3 ∧ ((a0 ≤ -500 ∧ -500 - ((am_tx.length : Nat) : Int) < a0) ∧ (am_R (am_prog scr) d f_jM_min 0 [some (.inl x3), some (.inl (((am_tx.getD (-500 - a0).toNat []).length : Nat) : Int))] [] g3 (fun v g6 => ∃ r7 : Int, v = some (.inl r7) ∧ wf g6 ∧ ((r4 < r7 → (am_R (am_prog scr) d f_jL_indexOfChar 0 [some (.inr (.inr a0)), some (.inl x1), some (.inl r4), some (.inl r7), none, none] [] g6 (fun v g8 => ∃ r9 : Int, v = some (.inl r9) ∧ wf g8 ∧ (Q (some (.inl r9)) g8)))) ∧ (¬ (r4 < r7) → (Q (some (.inl (-1))) g6))))))))) ∧ (r2 = 0 → (Q (some (.inl (-1))) g1))))) : am_R (am_prog scr) (d + 1) f_jL_indexOf 0 [some (.inr (.inr a0)), some (.inl x1), some (.inl x2), some (.inl x3)] [] h Q := by
  have hp : ∀ k, (am_prog scr).1 f_jL_indexOf k = c_jL_indexOf k := fun _ => rfl
  refine am_R.next ((hp 0).trans rfl) rfl ?_
  refine r_cs (as := [.inl x1]) (st' := []) ((hp 1).trans rfl) rfl rfl (Nat.le_of_ble_eq_true rfl) (Nat.le_of_ble_eq_true rfl) (am_R.post H (fun v g1 hq => ?_))
  obtain ⟨r2, rfl, hw, H⟩ := hq
  change am_R _ _ _ _ _ [.inl r2] _ _
  refine r_if ((hp 4).trans rfl) (fun c11 => ?_) (fun c11 => ?_)
  · have H := H.1 c11
    refine am_R.next ((hp 9).trans rfl) rfl ?_
    refine am_R.next ((hp 10).trans rfl) rfl ?_
    refine r_cs (as := [.inl x2, .inl 0]) (st' := []) ((hp 11).trans rfl) rfl rfl (Nat.le_of_ble_eq_true rfl) (Nat.le_of_ble_eq_true rfl) (am_R.post H (fun v g3 hq => ?_))
    obtain ⟨r4, rfl, hw, H⟩ := hq
    change am_R _ _ _ _ _ [.inl r4] _ _
    refine am_R.next (lv' := [some (.inr (.inr a0)), some (.inl x1), some (.inl r4), some (.inl x3)]) ((hp 14).trans rfl) rfl ?_
    refine am_R.next ((hp 15).trans rfl) rfl ?_
    refine am_R.next ((hp 16).trans rfl) rfl ?_
    obtain ⟨c5, H⟩ := H
    refine r_tlen ((hp 17).trans rfl) c5 ?_
    refine r_cs (as := [.inl x3, .inl (((am_tx.getD (-500 - a0).toNat []).length : Nat) : Int)]) (st' := []) ((hp 18).trans rfl) rfl rfl (Nat.le_of_ble_eq_true rfl) (Nat.le_of_ble_eq_true rfl) (am_R.post H (fun v g6 hq => ?_))
    obtain ⟨r7, rfl, hw, H⟩ := hq
    change am_R _ _ _ _ _ [.inl r7] _ _
    refine am_R.next (lv' := [some (.inr (.inr a0)), some (.inl x1), some (.inl r4), some (.inl r7)]) ((hp 21).trans rfl) rfl ?_
    refine am_R.next ((hp 22).trans rfl) rfl ?_
    refine am_R.next ((hp 23).trans rfl) rfl ?_
    refine r_ic ((hp 24).trans rfl) (fun c10 => ?_) (fun c10 => ?_)
    · have H := H.1 c10
      refine am_R.next ((hp 29).trans rfl) rfl ?_
      refine am_R.next ((hp 30).trans rfl) rfl ?_
      refine am_R.next ((hp 31).trans rfl) rfl ?_
      refine am_R.next ((hp 32).trans rfl) rfl ?_
      refine r_cs (as := [.inr (.inr a0), .inl x1, .inl r4, .inl r7]) (st' := []) ((hp 33).trans rfl) rfl rfl (Nat.le_of_ble_eq_true rfl) (Nat.le_of_ble_eq_true rfl) (am_R.post H (fun v g8 hq => ?_))
      obtain ⟨r9, rfl, hw, H⟩ := hq
      change am_R _ _ _ _ _ [.inl r9] _ _
      exact am_R.ret ((hp 36).trans rfl) rfl H
    · have H := H.2 c10
      refine am_R.next ((hp 27).trans rfl) rfl ?_
      exact am_R.ret ((hp 28).trans rfl) rfl H
  · have H := H.2 (Decidable.not_not.mp c11)
    refine am_R.next ((hp 7).trans rfl) rfl ?_
    exact am_R.ret ((hp 8).trans rfl) rfl H
theorem w_jL_indexOfChar_0 {scr : Nat × (Nat → Int)} {d : Nat} {h : am_H} {Q : Option am_V → am_H → Prop} {x1 x2 x3 a0 : Int} (hs : am_sc scr) (hw : wf h) (H : ∀ y1 : Int, y1 = Int.bmod x1 256 → (am_R (am_prog scr) d f_jL_indexOfChar 7 [some (.inr (.inr a0)), some (.inl x1), some (.inl x2), some (.inl x3), some (.inl y1), some (.inl x2)] [] h Q)) : am_R (am_prog scr) d f_jL_indexOfChar 0 [some (.inr (.inr a0)), some (.inl x1), some (.inl x2), some (.inl x3), none, none] [] h Q := by
  have hp : ∀ k, (am_prog scr).1 f_jL_indexOfChar k = c_jL_indexOfChar k := fun _ => rfl
  refine am_R.next ((hp 0).trans rfl) rfl ?_
  refine am_R.next ((hp 1).trans rfl) rfl ?_
  obtain ⟨y1, ey1⟩ : ∃ z : Int, z = Int.bmod x1 256 := ⟨_, rfl⟩
  have H := H y1 ey1
  refine am_R.next (lv' := [some (.inr (.inr a0)), some (.inl x1), some (.inl x2), some (.inl x3), some (.inl y1), none]) (st' := []) (h' := h) (pc' := 4) ((hp 2).trans rfl) (by rw [ey1]; rfl) ?_
  refine am_R.next ((hp 4).trans rfl) rfl ?_
  refine am_R.next (lv' := [some (.inr (.inr a0)), some (.inl x1), some (.inl x2), some (.inl x3), some (.inl y1), some (.inl x2)]) ((hp 5).trans rfl) rfl ?_
  exact H
theorem w_jL_indexOfChar_7 {scr : Nat × (Nat → Int)} {d : Nat} {h : am_H} {Q : Option am_V → am_H → Prop} {x1 x2 x3 x4 x5 a0 : Int} (hs : am_sc scr) (hw : wf h) (H : (¬ (x5 < x3) → (Q (some (.inl (-1))) h)) ∧ (x5 < x3 → ((a0 ≤ -500 ∧ -500 - ((am_tx.length : Nat) : Int) < a0 ∧ 0 ≤ x5 ∧ x5 < (((am_tx.getD (-500 - a0).toNat []).length : Nat) : Int)) ∧ ((¬ (((am_tx.getD (-500 - a0).toNat []).getD x5.toNat 0) = x4) → (∀ y2 : Int, y2 = am_w (x5 + 1) → (am_R (am_prog scr) d f_jL_indexOfChar 7 [some (.inr (.inr a0)), some (.inl x1), some (.inl x2), some (.inl x3), some (.inl x4), some (.inl y2)] [] h Q))) ∧ (((am_tx.getD (-500 - a0).toNat []).getD x5.toNat 0) = x4 → (Q (some (.inl x5)) h)))))) : am_R (am_prog scr) d f_jL_indexOfChar 7 [some (.inr (.inr a0)), some (.inl x1), some (.inl x2), some (.inl x3), some (.inl x4), some (.inl x5)] [] h Q := by
  have hp : ∀ k, (am_prog scr).1 f_jL_indexOfChar k = c_jL_indexOfChar k := fun _ => rfl
  refine am_R.next ((hp 7).trans rfl) rfl ?_
  refine am_R.next ((hp 9).trans rfl) rfl ?_
  refine r_ic ((hp 10).trans rfl) (fun c4 => ?_) (fun c4 => ?_)
  · have H := H.1 c4
    refine am_R.next ((hp 31).trans rfl) rfl ?_
    exact am_R.ret ((hp 32).trans rfl) rfl H
  · have H := H.2 (Decidable.not_not.mp c4)
    refine am_R.next ((hp 13).trans rfl) rfl ?_
    refine am_R.next ((hp 14).trans rfl) rfl ?_
    obtain ⟨c1, H⟩ := H
    refine r_tald ((hp 16).trans rfl) c1 ?_
    refine am_R.next ((hp 17).trans rfl) rfl ?_
    refine r_ic ((hp 19).trans rfl) (fun c3 => ?_) (fun c3 => ?_)
    · have H := H.1 c3
      obtain ⟨y2, ey2⟩ : ∃ z : Int, z = am_w (x5 + 1) := ⟨_, rfl⟩
      have H := H y2 ey2
      refine am_R.next (lv' := [some (.inr (.inr a0)), some (.inl x1), some (.inl x2), some (.inl x3), some (.inl x4), some (.inl y2)]) (st' := []) (h' := h) (pc' := 28) ((hp 25).trans rfl) (by rw [ey2]; rfl) ?_
      refine am_R.next ((hp 28).trans rfl) rfl ?_
      exact H
    · have H := H.2 (Decidable.not_not.mp c3)
      refine am_R.next ((hp 22).trans rfl) rfl ?_
      exact am_R.ret ((hp 24).trans rfl) rfl H
theorem w_jA_fill_0 {scr : Nat × (Nat → Int)} {d : Nat} {h : am_H} {Q : Option am_V → am_H → Prop} {x1 a0 : Int} (hs : am_sc scr) (hw : wf h) (H : (0 ≤ a0 ∧ 1 ≤ (h.2.2.1 a0.toNat).1 ∧ (h.2.2.1 a0.toNat).1 ≤ 6 ∧ (h.2.2.1 a0.toNat).2 ≤ 1000000) ∧ (∀ y2 : Int, y2 = ((h.2.2.1 a0.toNat).2 : Int) → (am_R (am_prog scr) d f_jA_fill 6 [some (.inr (.inr a0)), some (.inr (.inl x1)), none, some (.inl 0), some (.inl y2)] [] h Q))) : am_R (am_prog scr) d f_jA_fill 0 [some (.inr (.inr a0)), some (.inr (.inl x1)), none, none, none] [] h Q := by
  have hp : ∀ k, (am_prog scr).1 f_jA_fill k = c_jA_fill k := fun _ => rfl
  refine am_R.next ((hp 0).trans rfl) rfl ?_
  refine am_R.next (lv' := [some (.inr (.inr a0)), some (.inr (.inl x1)), none, some (.inl 0), none]) ((hp 1).trans rfl) rfl ?_
  refine am_R.next ((hp 2).trans rfl) rfl ?_
  obtain ⟨c1, H⟩ := H
  refine r_alen ((hp 3).trans rfl) c1 rfl ?_
  obtain ⟨y2, ey2⟩ : ∃ z : Int, z = ((h.2.2.1 a0.toNat).2 : Int) := ⟨_, rfl⟩
  have H := H y2 ey2
  refine am_R.next (lv' := [some (.inr (.inr a0)), some (.inr (.inl x1)), none, some (.inl 0), some (.inl y2)]) (st' := []) (h' := h) (pc' := 6) ((hp 4).trans rfl) (by rw [ey2]; rfl) ?_
  exact H
theorem w_jA_fill_6 {scr : Nat × (Nat → Int)} {d : Nat} {h : am_H} {Q : Option am_V → am_H → Prop} {x1 x3 x4 a0 : Int} (hs : am_sc scr) (hw : wf h) (H : (¬ (x3 < x4) → (Q none h)) ∧ (x3 < x4 → ((am_inA h a0 2 x3) ∧ ((a0.toNat ∉ wr_o) ∧ (∀ h3 : am_H, h3 = am_put h a0.toNat x3.toNat x1 → (∀ y4 : Int, y4 = am_w (x3 + 1) → (am_R (am_prog scr) d f_jA_fill 6 [some (.inr (.inr a0)), some (.inr (.inl x1)), none, some (.inl y4), some (.inl x4)] [] h3 Q))))))) : am_R (am_prog scr) d f_jA_fill 6 [some (.inr (.inr a0)), some (.inr (.inl x1)), none, some (.inl x3), some (.inl x4)] [] h Q := by
  have hp : ∀ k, (am_prog scr).1 f_jA_fill k = c_jA_fill k := fun _ => rfl
  refine am_R.next ((hp 6).trans rfl) rfl ?_
  refine am_R.next ((hp 7).trans rfl) rfl ?_
  refine r_ic ((hp 9).trans rfl) (fun c5 => ?_) (fun c5 => ?_)
  · have H := H.1 c5
    exact am_R.ret ((hp 22).trans rfl) rfl H
  · have H := H.2 (Decidable.not_not.mp c5)
    refine am_R.next ((hp 12).trans rfl) rfl ?_
    refine am_R.next ((hp 13).trans rfl) rfl ?_
    refine am_R.next ((hp 14).trans rfl) rfl ?_
    obtain ⟨c1, H⟩ := H
    obtain ⟨c2, H⟩ := H
    obtain ⟨h3, eh3⟩ : ∃ z : am_H, z = am_put h a0.toNat x3.toNat x1 := ⟨_, rfl⟩
    have H := H h3 eh3
    refine r_last ((hp 15).trans rfl) c1 ?_
    have hw : wf h3 := by rw [eh3]; exact hw.pa c2
    change am_R _ _ _ _ _ _ (am_put h a0.toNat x3.toNat x1) _
    rw [← eh3]
    obtain ⟨y4, ey4⟩ : ∃ z : Int, z = am_w (x3 + 1) := ⟨_, rfl⟩
    have H := H y4 ey4
    refine am_R.next (lv' := [some (.inr (.inr a0)), some (.inr (.inl x1)), none, some (.inl y4), some (.inl x4)]) (st' := []) (h' := h3) (pc' := 19) ((hp 16).trans rfl) (by rw [ey4]; rfl) ?_
    refine am_R.next ((hp 19).trans rfl) rfl ?_
    exact H
theorem w_jA_fill2_0 {scr : Nat × (Nat → Int)} {d : Nat} {h : am_H} {Q : Option am_V → am_H → Prop} {x1 a0 : Int} (hs : am_sc scr) (hw : wf h) (H : (0 ≤ a0 ∧ 1 ≤ (h.2.2.1 a0.toNat).1 ∧ (h.2.2.1 a0.toNat).1 ≤ 6 ∧ (h.2.2.1 a0.toNat).2 ≤ 1000000) ∧ (∀ y2 : Int, y2 = ((h.2.2.1 a0.toNat).2 : Int) → (am_R (am_prog scr) d f_jA_fill2 5 [some (.inr (.inr a0)), some (.inl x1), some (.inl 0), some (.inl y2)] [] h Q))) : am_R (am_prog scr) d f_jA_fill2 0 [some (.inr (.inr a0)), some (.inl x1), none, none] [] h Q := by
  have hp : ∀ k, (am_prog scr).1 f_jA_fill2 k = c_jA_fill2 k := fun _ => rfl
  refine am_R.next ((hp 0).trans rfl) rfl ?_
  refine am_R.next (lv' := [some (.inr (.inr a0)), some (.inl x1), some (.inl 0), none]) ((hp 1).trans rfl) rfl ?_
  refine am_R.next ((hp 2).trans rfl) rfl ?_
  obtain ⟨c1, H⟩ := H
  refine r_alen ((hp 3).trans rfl) c1 rfl ?_
  obtain ⟨y2, ey2⟩ : ∃ z : Int, z = ((h.2.2.1 a0.toNat).2 : Int) := ⟨_, rfl⟩
  have H := H y2 ey2
  refine am_R.next (lv' := [some (.inr (.inr a0)), some (.inl x1), some (.inl 0), some (.inl y2)]) (st' := []) (h' := h) (pc' := 5) ((hp 4).trans rfl) (by rw [ey2]; rfl) ?_
  exact H
theorem w_jA_fill2_5 {scr : Nat × (Nat → Int)} {d : Nat} {h : am_H} {Q : Option am_V → am_H → Prop} {x1 x2 x3 a0 : Int} (hs : am_sc scr) (hw : wf h) (H : (¬ (x2 < x3) → (Q none h)) ∧ (x2 < x3 → ((am_inA h a0 1 x2) ∧ ((a0.toNat ∉ wr_o) ∧ (∀ h3 : am_H, h3 = am_put h a0.toNat x2.toNat x1 → (∀ y4 : Int, y4 = am_w (x2 + 1) → (am_R (am_prog scr) d f_jA_fill2 5 [some (.inr (.inr a0)), some (.inl x1), some (.inl y4), some (.inl x3)] [] h3 Q))))))) : am_R (am_prog scr) d f_jA_fill2 5 [some (.inr (.inr a0)), some (.inl x1), some (.inl x2), some (.inl x3)] [] h Q := by
  have hp : ∀ k, (am_prog scr).1 f_jA_fill2 k = c_jA_fill2 k := fun _ => rfl
  refine am_R.next ((hp 5).trans rfl) rfl ?_
  refine am_R.next ((hp 6).trans rfl) rfl ?_
  refine r_ic ((hp 7).trans rfl) (fun c5 => ?_) (fun c5 => ?_)
  · have H := H.1 c5
    exact am_R.ret ((hp 20).trans rfl) rfl H
  · have H := H.2 (Decidable.not_not.mp c5)
    refine am_R.next ((hp 10).trans rfl) rfl ?_
    refine am_R.next ((hp 11).trans rfl) rfl ?_
    refine am_R.next ((hp 12).trans rfl) rfl ?_
    obtain ⟨c1, H⟩ := H
    obtain ⟨c2, H⟩ := H
    obtain ⟨h3, eh3⟩ : ∃ z : am_H, z = am_put h a0.toNat x2.toNat x1 := ⟨_, rfl⟩
    have H := H h3 eh3
    refine r_iast ((hp 13).trans rfl) c1 ?_
    have hw : wf h3 := by rw [eh3]; exact hw.pa c2
    change am_R _ _ _ _ _ _ (am_put h a0.toNat x2.toNat x1) _
    rw [← eh3]
    obtain ⟨y4, ey4⟩ : ∃ z : Int, z = am_w (x2 + 1) := ⟨_, rfl⟩
    have H := H y4 ey4
    refine am_R.next (lv' := [some (.inr (.inr a0)), some (.inl x1), some (.inl y4), some (.inl x3)]) (st' := []) (h' := h3) (pc' := 17) ((hp 14).trans rfl) (by rw [ey4]; rfl) ?_
    refine am_R.next ((hp 17).trans rfl) rfl ?_
    exact H
theorem w_jA_copyOf_0 {scr : Nat × (Nat → Int)} {d : Nat} {h : am_H} {Q : Option am_V → am_H → Prop} {x1 a0 : Int} (hs : am_sc scr) (hw : wf h) (H : (0 ≤ a0 ∧ 1 ≤ (h.2.2.1 a0.toNat).1 ∧ (h.2.2.1 a0.toNat).1 ≤ 6 ∧ (h.2.2.1 a0.toNat).2 ≤ 1000000) ∧ ((¬ (x1 = ((h.2.2.1 a0.toNat).2 : Int)) → ((0 ≤ x1 ∧ x1 ≤ 1000000) ∧ (∀ h2 : am_H, h2 = am_mk h 1 x1.toNat (fun _ => 0) → ((0 ≤ a0 ∧ 1 ≤ (h2.2.2.1 a0.toNat).1 ∧ (h2.2.2.1 a0.toNat).1 ≤ 6 ∧ (h2.2.2.1 a0.toNat).2 ≤ 1000000) ∧ (am_R (am_prog scr) d f_jM_min 0 [some (.inl ((h2.2.2.1 a0.toNat).2 : Int)), some (.inl x1)] [] h2 (fun v g4 => ∃ r5 : Int, v = some (.inl r5) ∧ wf g4 ∧ ((0 ≤ a0 ∧ (g4.2.2.1 a0.toNat).1 = 1) ∧ ((0 ≤ ((h.1 : Nat) : Int) ∧ (g4.2.2.1 h.1).1 = 1) ∧ (a0 ≠ ((h.1 : Nat) : Int) ∧ ((0 ≤ (r5 : Int) ∧ 0 ≤ (0 : Int) ∧ 0 ≤ (0 : Int)) ∧ ((0 : Int) + r5 ≤ ((g4.2.2.1 a0.toNat).2 : Int) ∧ ((0 : Int) + r5 ≤ ((g4.2.2.1 h.1).2 : Int) ∧ ((h.1 ∉ wr_o) ∧ (∀ h12 : am_H, h12 = am_cpy g4 a0.toNat h.1 0 0 r5.toNat → (Q (some (.inr (.inr ((h.1 : Nat) : Int)))) h12))))))))))))))) ∧ (x1 = ((h.2.2.1 a0.toNat).2 : Int) → (False)))) : am_R (am_prog scr) (d + 1) f_jA_copyOf 0 [some (.inr (.inr a0)), some (.inl x1), none] [] h Q := by
  have hp : ∀ k, (am_prog scr).1 f_jA_copyOf k = c_jA_copyOf k := fun _ => rfl
  refine am_R.next ((hp 0).trans rfl) rfl ?_
  refine am_R.next ((hp 1).trans rfl) rfl ?_
  obtain ⟨c1, H⟩ := H
  refine r_alen ((hp 2).trans rfl) c1 rfl ?_
  refine r_ic ((hp 3).trans rfl) (fun c15 => ?_) (fun c15 => ?_)
  · have H := H.1 c15
    refine am_R.next ((hp 14).trans rfl) rfl ?_
    obtain ⟨c14, H⟩ := H
    obtain ⟨h2, eh2⟩ : ∃ z : am_H, z = am_mk h 1 x1.toNat (fun _ => 0) := ⟨_, rfl⟩
    have H := H h2 eh2
    have hw : wf h2 := by rw [eh2]; exact hw.mk
    refine r_newa ((hp 15).trans rfl) c14 ?_
    change am_R _ _ _ _ _ _ (am_mk h 1 x1.toNat (fun _ => 0)) _
    rw [← eh2]
    refine am_R.next (lv' := [some (.inr (.inr a0)), some (.inl x1), some (.inr (.inr ((h.1 : Nat) : Int)))]) ((hp 17).trans rfl) rfl ?_
    refine am_R.next ((hp 18).trans rfl) rfl ?_
    refine am_R.next ((hp 19).trans rfl) rfl ?_
    refine am_R.next ((hp 20).trans rfl) rfl ?_
    refine am_R.next ((hp 21).trans rfl) rfl ?_
    refine am_R.next ((hp 22).trans rfl) rfl ?_
    obtain ⟨c3, H⟩ := H
    refine r_alen ((hp 23).trans rfl) c3 rfl ?_
    refine am_R.next ((hp 24).trans rfl) rfl ?_
    refine r_cs (as := [.inl ((h2.2.2.1 a0.toNat).2 : Int), .inl x1]) (st' := [.inl 0, .inr (.inr ((h.1 : Nat) : Int)), .inl 0, .inr (.inr a0)]) ((hp 25).trans rfl) rfl rfl (Nat.le_of_ble_eq_true rfl) (Nat.le_of_ble_eq_true rfl) (am_R.post H (fun v g4 hq => ?_))
    obtain ⟨r5, rfl, hw, H⟩ := hq
    change am_R _ _ _ _ _ [.inl r5, .inl 0, .inr (.inr ((h.1 : Nat) : Int)), .inl 0, .inr (.inr a0)] _ _
    obtain ⟨c6, c7, c8, c9, c10, c11, H⟩ := H
    obtain ⟨c13, H⟩ := H
    obtain ⟨h12, eh12⟩ : ∃ z : am_H, z = am_cpy g4 a0.toNat h.1 0 0 r5.toNat := ⟨_, rfl⟩
    have H := H h12 eh12
    refine r_acpy ((hp 28).trans rfl) (Or.inr c6) c7 c8 c9 c10 c11 (Nat.le_of_ble_eq_true rfl) ?_
    have hw : wf h12 := by rw [eh12]; exact hw.cpy c13
    change am_R _ _ _ _ _ _ (am_cpy g4 a0.toNat h.1 0 0 r5.toNat) _
    rw [← eh12]
    refine am_R.next ((hp 31).trans rfl) rfl ?_
    exact r_aret ((hp 32).trans rfl) (by omega) H
  · have H := H.2 (Decidable.not_not.mp c15)
    refine am_R.next ((hp 6).trans rfl) rfl ?_
    exact H.elim
theorem w_jP_checkIndex_0 {scr : Nat × (Nat → Int)} {d : Nat} {h : am_H} {Q : Option am_V → am_H → Prop} {x0 x1 a2 : Int} (hs : am_sc scr) (hw : wf h) (H : (x0 < 0 → (False)) ∧ (¬ (x0 < 0) → ((x0 < x1 → (Q (some (.inl x0)) h)) ∧ (¬ (x0 < x1) → (False))))) : am_R (am_prog scr) (d + 1) f_jP_checkIndex 0 [some (.inl x0), some (.inl x1), some (.inr (.inr a2))] [] h Q := by
  have hp : ∀ k, (am_prog scr).1 f_jP_checkIndex k = c_jP_checkIndex k := fun _ => rfl
  refine am_R.next ((hp 0).trans rfl) rfl ?_
  refine r_if ((hp 1).trans rfl) (fun c2 => ?_) (fun c2 => ?_)
  · have H := H.1 c2
    refine am_R.next ((hp 9).trans rfl) rfl ?_
    refine am_R.next ((hp 10).trans rfl) rfl ?_
    refine am_R.next ((hp 11).trans rfl) rfl ?_
    exact H.elim
  · have H := H.2 c2
    refine am_R.next ((hp 4).trans rfl) rfl ?_
    refine am_R.next ((hp 5).trans rfl) rfl ?_
    refine r_ic ((hp 6).trans rfl) (fun c1 => ?_) (fun c1 => ?_)
    · have H := H.1 c1
      refine am_R.next ((hp 16).trans rfl) rfl ?_
      exact am_R.ret ((hp 17).trans rfl) rfl H
    · have H := H.2 c1
      refine am_R.next ((hp 9).trans rfl) rfl ?_
      refine am_R.next ((hp 10).trans rfl) rfl ?_
      refine am_R.next ((hp 11).trans rfl) rfl ?_
      exact H.elim
theorem w_jP_checkFromToIndex_0 {scr : Nat × (Nat → Int)} {d : Nat} {h : am_H} {Q : Option am_V → am_H → Prop} {x0 x1 x2 a3 : Int} (hs : am_sc scr) (hw : wf h) (H : (x0 < 0 → (False)) ∧ (¬ (x0 < 0) → ((x1 < x0 → (False)) ∧ (¬ (x1 < x0) → ((x1 ≤ x2 → (Q (some (.inl x0)) h)) ∧ (¬ (x1 ≤ x2) → (False))))))) : am_R (am_prog scr) (d + 1) f_jP_checkFromToIndex 0 [some (.inl x0), some (.inl x1), some (.inl x2), some (.inr (.inr a3))] [] h Q := by
  have hp : ∀ k, (am_prog scr).1 f_jP_checkFromToIndex k = c_jP_checkFromToIndex k := fun _ => rfl
  refine am_R.next ((hp 0).trans rfl) rfl ?_
  refine r_if ((hp 1).trans rfl) (fun c3 => ?_) (fun c3 => ?_)
  · have H := H.1 c3
    refine am_R.next ((hp 14).trans rfl) rfl ?_
    refine am_R.next ((hp 15).trans rfl) rfl ?_
    refine am_R.next ((hp 16).trans rfl) rfl ?_
    refine am_R.next ((hp 17).trans rfl) rfl ?_
    exact H.elim
  · have H := H.2 c3
    refine am_R.next ((hp 4).trans rfl) rfl ?_
    refine am_R.next ((hp 5).trans rfl) rfl ?_
    refine r_ic ((hp 6).trans rfl) (fun c2 => ?_) (fun c2 => ?_)
    · have H := H.1 c2
      refine am_R.next ((hp 14).trans rfl) rfl ?_
      refine am_R.next ((hp 15).trans rfl) rfl ?_
      refine am_R.next ((hp 16).trans rfl) rfl ?_
      refine am_R.next ((hp 17).trans rfl) rfl ?_
      exact H.elim
    · have H := H.2 c2
      refine am_R.next ((hp 9).trans rfl) rfl ?_
      refine am_R.next ((hp 10).trans rfl) rfl ?_
      refine r_ic ((hp 11).trans rfl) (fun c1 => ?_) (fun c1 => ?_)
      · have H := H.1 c1
        refine am_R.next ((hp 22).trans rfl) rfl ?_
        exact am_R.ret ((hp 23).trans rfl) rfl H
      · have H := H.2 c1
        refine am_R.next ((hp 14).trans rfl) rfl ?_
        refine am_R.next ((hp 15).trans rfl) rfl ?_
        refine am_R.next ((hp 16).trans rfl) rfl ?_
        refine am_R.next ((hp 17).trans rfl) rfl ?_
        exact H.elim
