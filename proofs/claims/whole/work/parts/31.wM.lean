/-! the reference: what the stretches ask for (printed by program) -/
theorem w_M_within_0 {scr : Nat × (Nat → Int)} {d : Nat} {h : am_H} {Q : Option am_V → am_H → Prop} {x0 x2 x4 : Int} (hs : am_sc scr) (hw : wf h) (H : (x0 < x2 → (Q (some (.inl 0)) h)) ∧ (¬ (x0 < x2) → ((x4 < x0 → (Q (some (.inl 0)) h)) ∧ (¬ (x4 < x0) → (Q (some (.inl 1)) h))))) : am_R (am_prog scr) d f_M_within 0 [some (.inr (.inl x0)), none, some (.inr (.inl x2)), none, some (.inr (.inl x4)), none] [] h Q := by
  have hp : ∀ k, (am_prog scr).1 f_M_within k = c_M_within k := fun _ => rfl
  refine am_R.next ((hp 0).trans rfl) rfl ?_
  refine am_R.next ((hp 1).trans rfl) rfl ?_
  refine am_R.next ((hp 2).trans rfl) rfl ?_
  refine r_if ((hp 3).trans rfl) (fun c2 => ?_) (fun c2 => ?_)
  · have H := H.1 (lc_ltt c2)
    refine am_R.next ((hp 17).trans rfl) rfl ?_
    exact r_zret ((hp 18).trans rfl) (Or.inl rfl) H
  · have H := H.2 (lc_ltf c2)
    refine am_R.next ((hp 6).trans rfl) rfl ?_
    refine am_R.next ((hp 7).trans rfl) rfl ?_
    refine am_R.next ((hp 9).trans rfl) rfl ?_
    refine r_if ((hp 10).trans rfl) (fun c1 => ?_) (fun c1 => ?_)
    · have H := H.1 (lc_gtt c1)
      refine am_R.next ((hp 17).trans rfl) rfl ?_
      exact r_zret ((hp 18).trans rfl) (Or.inl rfl) H
    · have H := H.2 (lc_gtf c1)
      refine am_R.next ((hp 13).trans rfl) rfl ?_
      refine am_R.next ((hp 14).trans rfl) rfl ?_
      exact r_zret ((hp 18).trans rfl) (Or.inr rfl) H
theorem w_M_plain_0 {scr : Nat × (Nat → Int)} {d : Nat} {h : am_H} {Q : Option am_V → am_H → Prop} {a0 : Int} (hs : am_sc scr) (hw : wf h) (H : am_R (am_prog scr) d f_M_plain 2 [some (.inr (.inr a0)), some (.inl 0)] [] h Q) : am_R (am_prog scr) d f_M_plain 0 [some (.inr (.inr a0)), none] [] h Q := by
  have hp : ∀ k, (am_prog scr).1 f_M_plain k = c_M_plain k := fun _ => rfl
  refine am_R.next ((hp 0).trans rfl) rfl ?_
  refine am_R.next (lv' := [some (.inr (.inr a0)), some (.inl 0)]) ((hp 1).trans rfl) rfl ?_
  exact H
theorem w_M_plain_2 {scr : Nat × (Nat → Int)} {d : Nat} {h : am_H} {Q : Option am_V → am_H → Prop} {x1 a0 : Int} (hs : am_sc scr) (hw : wf h) (H : (¬ (x1 < 1112) → ((am_inA h a0 1 1) ∧ ((a0.toNat ∉ wr_o) ∧ (∀ h3 : am_H, h3 = am_put h a0.toNat 1 1 → ((am_inA h3 a0 1 2) ∧ ((a0.toNat ∉ wr_o) ∧ (∀ h6 : am_H, h6 = am_put h3 a0.toNat 2 1 → ((am_inA h6 a0 1 3) ∧ ((a0.toNat ∉ wr_o) ∧ (∀ h9 : am_H, h9 = am_put h6 a0.toNat 3 1 → (Q none h9))))))))))) ∧ (x1 < 1112 → ((am_inA h a0 1 x1) ∧ ((a0.toNat ∉ wr_o) ∧ (∀ h12 : am_H, h12 = am_put h a0.toNat x1.toNat 0 → (∀ y13 : Int, y13 = am_w (x1 + 1) → (am_R (am_prog scr) d f_M_plain 2 [some (.inr (.inr a0)), some (.inl y13)] [] h12 Q))))))) : am_R (am_prog scr) d f_M_plain 2 [some (.inr (.inr a0)), some (.inl x1)] [] h Q := by
  have hp : ∀ k, (am_prog scr).1 f_M_plain k = c_M_plain k := fun _ => rfl
  refine am_R.next ((hp 2).trans rfl) rfl ?_
  refine am_R.next ((hp 3).trans rfl) rfl ?_
  refine r_ic ((hp 6).trans rfl) (fun c14 => ?_) (fun c14 => ?_)
  · have H := H.1 c14
    refine am_R.next ((hp 19).trans rfl) rfl ?_
    refine am_R.next ((hp 20).trans rfl) rfl ?_
    refine am_R.next ((hp 21).trans rfl) rfl ?_
    obtain ⟨c1, H⟩ := H
    obtain ⟨c2, H⟩ := H
    obtain ⟨h3, eh3⟩ : ∃ z : am_H, z = am_put h a0.toNat 1 1 := ⟨_, rfl⟩
    have H := H h3 eh3
    refine r_iast ((hp 22).trans rfl) c1 ?_
    have hw : wf h3 := by rw [eh3]; exact hw.pa c2
    change am_R _ _ _ _ _ _ (am_put h a0.toNat 1 1) _
    rw [← eh3]
    refine am_R.next ((hp 23).trans rfl) rfl ?_
    refine am_R.next ((hp 24).trans rfl) rfl ?_
    refine am_R.next ((hp 25).trans rfl) rfl ?_
    obtain ⟨c4, H⟩ := H
    obtain ⟨c5, H⟩ := H
    obtain ⟨h6, eh6⟩ : ∃ z : am_H, z = am_put h3 a0.toNat 2 1 := ⟨_, rfl⟩
    have H := H h6 eh6
    refine r_iast ((hp 26).trans rfl) c4 ?_
    have hw : wf h6 := by rw [eh6]; exact hw.pa c5
    change am_R _ _ _ _ _ _ (am_put h3 a0.toNat 2 1) _
    rw [← eh6]
    refine am_R.next ((hp 27).trans rfl) rfl ?_
    refine am_R.next ((hp 28).trans rfl) rfl ?_
    refine am_R.next ((hp 29).trans rfl) rfl ?_
    obtain ⟨c7, H⟩ := H
    obtain ⟨c8, H⟩ := H
    obtain ⟨h9, eh9⟩ : ∃ z : am_H, z = am_put h6 a0.toNat 3 1 := ⟨_, rfl⟩
    have H := H h9 eh9
    refine r_iast ((hp 30).trans rfl) c7 ?_
    have hw : wf h9 := by rw [eh9]; exact hw.pa c8
    change am_R _ _ _ _ _ _ (am_put h6 a0.toNat 3 1) _
    rw [← eh9]
    exact am_R.ret ((hp 31).trans rfl) rfl H
  · have H := H.2 (Decidable.not_not.mp c14)
    refine am_R.next ((hp 9).trans rfl) rfl ?_
    refine am_R.next ((hp 10).trans rfl) rfl ?_
    refine am_R.next ((hp 11).trans rfl) rfl ?_
    obtain ⟨c10, H⟩ := H
    obtain ⟨c11, H⟩ := H
    obtain ⟨h12, eh12⟩ : ∃ z : am_H, z = am_put h a0.toNat x1.toNat 0 := ⟨_, rfl⟩
    have H := H h12 eh12
    refine r_iast ((hp 12).trans rfl) c10 ?_
    have hw : wf h12 := by rw [eh12]; exact hw.pa c11
    change am_R _ _ _ _ _ _ (am_put h a0.toNat x1.toNat 0) _
    rw [← eh12]
    obtain ⟨y13, ey13⟩ : ∃ z : Int, z = am_w (x1 + 1) := ⟨_, rfl⟩
    have H := H y13 ey13
    refine am_R.next (lv' := [some (.inr (.inr a0)), some (.inl y13)]) (st' := []) (h' := h12) (pc' := 16) ((hp 13).trans rfl) (by rw [ey13]; rfl) ?_
    refine am_R.next ((hp 16).trans rfl) rfl ?_
    exact H
theorem w_M_feed_0 {scr : Nat × (Nat → Int)} {d : Nat} {h : am_H} {Q : Option am_V → am_H → Prop} {x1 x2 x3 x4 x5 : Int} (hs : am_sc scr) (hw : wf h) (H : ∀ h1 : am_H, h1 = am_put h 109 0 0 → (((am_w ((h1.2.2.2 109 5) + 20)) ≤ 900 → (am_R (am_prog scr) d f_M_feed 24 [some (.inr (.inr ((109 : Nat) : Int))), some (.inl x1), some (.inl x2), some (.inl x3), some (.inl x4), some (.inl x5), some (.inl 0), none] [] h1 Q)) ∧ (¬ ((am_w ((h1.2.2.2 109 5) + 20)) ≤ 900) → (Q (some (.inl (-5))) h1)))) : am_R (am_prog scr) d f_M_feed 0 [some (.inr (.inr ((109 : Nat) : Int))), some (.inl x1), some (.inl x2), some (.inl x3), some (.inl x4), some (.inl x5), none, none] [] h Q := by
  have hp : ∀ k, (am_prog scr).1 f_M_feed k = c_M_feed k := fun _ => rfl
  refine am_R.next ((hp 0).trans rfl) rfl ?_
  refine am_R.next ((hp 1).trans rfl) rfl ?_
  obtain ⟨h1, eh1⟩ : ∃ z : am_H, z = am_put h 109 0 0 := ⟨_, rfl⟩
  have H := H h1 eh1
  refine r_putI ((hp 2).trans rfl) (hw.o (i := 109) (by decide) rfl) ?_
  have hw : wf h1 := by rw [eh1]; exact hw.put np_109_0
  change am_R _ _ _ _ _ _ (am_put h 109 0 0) _
  rw [← eh1]
  refine am_R.next ((hp 5).trans rfl) rfl ?_
  refine r_getI ((hp 6).trans rfl) (hw.o (i := 109) (by decide) rfl) ?_
  refine am_R.next ((hp 9).trans rfl) rfl ?_
  refine am_R.next ((hp 11).trans rfl) rfl ?_
  refine am_R.next ((hp 12).trans rfl) rfl ?_
  refine r_ic ((hp 15).trans rfl) (fun c2 => ?_) (fun c2 => ?_)
  · have H := H.1 c2
    refine am_R.next ((hp 21).trans rfl) rfl ?_
    refine am_R.next (lv' := [some (.inr (.inr ((109 : Nat) : Int))), some (.inl x1), some (.inl x2), some (.inl x3), some (.inl x4), some (.inl x5), some (.inl 0), none]) ((hp 22).trans rfl) rfl ?_
    exact H
  · have H := H.2 c2
    refine am_R.next ((hp 18).trans rfl) rfl ?_
    exact am_R.ret ((hp 20).trans rfl) rfl H
theorem w_M_feed_24 {scr : Nat × (Nat → Int)} {d : Nat} {h : am_H} {Q : Option am_V → am_H → Prop} {x1 x2 x3 x4 x5 x6 : Int} (hs : am_sc scr) (hw : wf h) (H : (¬ (x6 < 20) → (Q (some (.inl (h.2.2.2 109 5))) h)) ∧ (x6 < 20 → ((¬ (x6 < 4) → ((¬ (x6 < 8) → ((¬ (x6 < 12) → ((¬ (x6 < 16) → (((0 ≤ (h.2.2.2 109 5) ∧ (h.2.2.2 109 5) < 900)) ∧ (∀ h2 : am_H, h2 = am_put h 112 ((h.2.2.2 109 5).toNat) (am_and (am_shr x5 (am_w (24 - (am_w (8 * (x6.tmod 4)))))) 255) → (∀ h3 : am_H, h3 = am_put h2 109 5 (am_w ((h2.2.2.2 109 5) + 1)) → (∀ y4 : Int, y4 = am_w (x6 + 1) → (am_R (am_prog scr) d f_M_feed 24 [some (.inr (.inr ((109 : Nat) : Int))), some (.inl x1), some (.inl x2), some (.inl x3), some (.inl x4), some (.inl x5), some (.inl y4), none] [] h3 Q)))))) ∧ (x6 < 16 → (((0 ≤ (h.2.2.2 109 5) ∧ (h.2.2.2 109 5) < 900)) ∧ (∀ h6 : am_H, h6 = am_put h 112 ((h.2.2.2 109 5).toNat) (am_and (am_shr x4 (am_w (24 - (am_w (8 * (x6.tmod 4)))))) 255) → (∀ h7 : am_H, h7 = am_put h6 109 5 (am_w ((h6.2.2.2 109 5) + 1)) → (∀ y8 : Int, y8 = am_w (x6 + 1) → (am_R (am_prog scr) d f_M_feed 24 [some (.inr (.inr ((109 : Nat) : Int))), some (.inl x1), some (.inl x2), some (.inl x3), some (.inl x4), some (.inl x5), some (.inl y8), none] [] h7 Q)))))))) ∧ (x6 < 12 → (((0 ≤ (h.2.2.2 109 5) ∧ (h.2.2.2 109 5) < 900)) ∧ (∀ h11 : am_H, h11 = am_put h 112 ((h.2.2.2 109 5).toNat) (am_and (am_shr x3 (am_w (24 - (am_w (8 * (x6.tmod 4)))))) 255) → (∀ h12 : am_H, h12 = am_put h11 109 5 (am_w ((h11.2.2.2 109 5) + 1)) → (∀ y13 : Int, y13 = am_w (x6 + 1) → (am_R (am_prog scr) d f_M_feed 24 [some (.inr (.inr ((109 : Nat) : Int))), some (.inl x1), some (.inl x2), some (.inl x3), some (.inl x4), some (.inl x5), some (.inl y13), none] [] h12 Q)))))))) ∧ (x6 < 8 → (((0 ≤ (h.2.2.2 109 5) ∧ (h.2.2.2 109 5) < 900)) ∧ (∀ h16 : am_H, h16 = am_put h 112 ((h.2.2.2 109 5).toNat) (am_and (am_shr x2 (am_w (24 - (am_w (8 * (x6.tmod 4)))))) 255) → (∀ h17 : am_H, h17 = am_put h16 109 5 (am_w ((h16.2.2.2 109 5) + 1)) → (∀ y18 : Int, y18 = am_w (x6 + 1) → (am_R (am_prog scr) d f_M_feed 24 [some (.inr (.inr ((109 : Nat) : Int))), some (.inl x1), some (.inl x2), some (.inl x3), some (.inl x4), some (.inl x5), some (.inl y18), none] [] h17 Q)))))))) ∧ (x6 < 4 → (((0 ≤ (h.2.2.2 109 5) ∧ (h.2.2.2 109 5) < 900)) ∧ (∀ h21 : am_H, h21 = am_put h 112 ((h.2.2.2 109 5).toNat) (am_and (am_shr x1 (am_w (24 - (am_w (8 * (x6.tmod 4)))))) 255) → (∀ h22 : am_H, h22 = am_put h21 109 5 (am_w ((h21.2.2.2 109 5) + 1)) → (∀ y23 : Int, y23 = am_w (x6 + 1) → (am_R (am_prog scr) d f_M_feed 24 [some (.inr (.inr ((109 : Nat) : Int))), some (.inl x1), some (.inl x2), some (.inl x3), some (.inl x4), some (.inl x5), some (.inl y23), none] [] h22 Q))))))))) : am_R (am_prog scr) d f_M_feed 24 [some (.inr (.inr ((109 : Nat) : Int))), some (.inl x1), some (.inl x2), some (.inl x3), some (.inl x4), some (.inl x5), some (.inl x6), none] [] h Q := by
  have hp : ∀ k, (am_prog scr).1 f_M_feed k = c_M_feed k := fun _ => rfl
  refine am_R.next ((hp 24).trans rfl) rfl ?_
  refine am_R.next ((hp 26).trans rfl) rfl ?_
  refine r_ic ((hp 28).trans rfl) (fun c25 => ?_) (fun c25 => ?_)
  · have H := H.1 c25
    refine am_R.next ((hp 121).trans rfl) rfl ?_
    refine r_getI ((hp 122).trans rfl) (hw.o (i := 109) (by decide) rfl) ?_
    exact am_R.ret ((hp 125).trans rfl) rfl H
  · have H := H.2 (Decidable.not_not.mp c25)
    refine am_R.next ((hp 31).trans rfl) rfl ?_
    refine am_R.next ((hp 33).trans rfl) rfl ?_
    refine r_ic ((hp 34).trans rfl) (fun c24 => ?_) (fun c24 => ?_)
    · have H := H.1 c24
      refine am_R.next ((hp 41).trans rfl) rfl ?_
      refine am_R.next ((hp 43).trans rfl) rfl ?_
      refine r_ic ((hp 45).trans rfl) (fun c19 => ?_) (fun c19 => ?_)
      · have H := H.1 c19
        refine am_R.next ((hp 52).trans rfl) rfl ?_
        refine am_R.next ((hp 54).trans rfl) rfl ?_
        refine r_ic ((hp 56).trans rfl) (fun c14 => ?_) (fun c14 => ?_)
        · have H := H.1 c14
          refine am_R.next ((hp 63).trans rfl) rfl ?_
          refine am_R.next ((hp 65).trans rfl) rfl ?_
          refine r_ic ((hp 67).trans rfl) (fun c9 => ?_) (fun c9 => ?_)
          · have H := H.1 c9
            refine am_R.next ((hp 75).trans rfl) rfl ?_
            refine am_R.next (lv' := [some (.inr (.inr ((109 : Nat) : Int))), some (.inl x1), some (.inl x2), some (.inl x3), some (.inl x4), some (.inl x5), some (.inl x6), some (.inl x5)]) ((hp 77).trans rfl) rfl ?_
            refine am_R.next ((hp 79).trans rfl) rfl ?_
            refine r_getR ((hp 80).trans rfl) (hw.o (i := 109) (by decide) rfl) (hw.r wr_109_3) ?_
            refine am_R.next ((hp 83).trans rfl) rfl ?_
            refine r_getI ((hp 84).trans rfl) (hw.o (i := 109) (by decide) rfl) ?_
            refine am_R.next ((hp 87).trans rfl) rfl ?_
            refine am_R.next ((hp 89).trans rfl) rfl ?_
            refine am_R.next ((hp 91).trans rfl) rfl ?_
            refine am_R.next ((hp 93).trans rfl) rfl ?_
            refine am_R.next ((hp 95).trans rfl) rfl ?_
            refine r_i2z ((hp 96).trans rfl) (by decide) ?_
            refine am_R.next ((hp 97).trans rfl) rfl ?_
            refine am_R.next ((hp 98).trans rfl) rfl ?_
            refine am_R.next ((hp 99).trans rfl) rfl ?_
            refine am_R.next ((hp 100).trans rfl) rfl ?_
            refine am_R.next ((hp 103).trans rfl) rfl ?_
            obtain ⟨c1, H⟩ := H
            obtain ⟨h2, eh2⟩ : ∃ z : am_H, z = am_put h 112 ((h.2.2.2 109 5).toNat) (am_and (am_shr x5 (am_w (24 - (am_w (8 * (x6.tmod 4)))))) 255) := ⟨_, rfl⟩
            have H := H h2 eh2
            refine r_iast ((hp 104).trans rfl) (hw.a (i := 112) (by decide) rfl c1.1 c1.2) ?_
            have hw : wf h2 := by rw [eh2]; exact hw.pa na_112
            change am_R _ _ _ _ _ _ (am_put h 112 ((h.2.2.2 109 5).toNat) (am_and (am_shr x5 (am_w (24 - (am_w (8 * (x6.tmod 4)))))) 255)) _
            rw [← eh2]
            refine am_R.next ((hp 105).trans rfl) rfl ?_
            refine am_R.next ((hp 106).trans rfl) rfl ?_
            refine r_getI ((hp 107).trans rfl) (hw.o (i := 109) (by decide) rfl) ?_
            refine am_R.next ((hp 110).trans rfl) rfl ?_
            refine am_R.next ((hp 111).trans rfl) rfl ?_
            obtain ⟨h3, eh3⟩ : ∃ z : am_H, z = am_put h2 109 5 (am_w ((h2.2.2.2 109 5) + 1)) := ⟨_, rfl⟩
            have H := H h3 eh3
            refine r_putI ((hp 112).trans rfl) (hw.o (i := 109) (by decide) rfl) ?_
            have hw : wf h3 := by rw [eh3]; exact hw.put np_109_5
            change am_R _ _ _ _ _ _ (am_put h2 109 5 (am_w ((h2.2.2.2 109 5) + 1))) _
            rw [← eh3]
            obtain ⟨y4, ey4⟩ : ∃ z : Int, z = am_w (x6 + 1) := ⟨_, rfl⟩
            have H := H y4 ey4
            refine am_R.next (lv' := [some (.inr (.inr ((109 : Nat) : Int))), some (.inl x1), some (.inl x2), some (.inl x3), some (.inl x4), some (.inl x5), some (.inl y4), some (.inl x5)]) (st' := []) (h' := h3) (pc' := 118) ((hp 115).trans rfl) (by rw [ey4]; rfl) ?_
            refine am_R.next ((hp 118).trans rfl) rfl ?_
            exact r_le hs in_4 (le_k (le_k (le_k (le_k (le_k (le_k (le_k (le_d le_n)))))))) H
          · have H := H.2 (Decidable.not_not.mp c9)
            refine am_R.next ((hp 70).trans rfl) rfl ?_
            refine am_R.next ((hp 72).trans rfl) rfl ?_
            refine am_R.next (lv' := [some (.inr (.inr ((109 : Nat) : Int))), some (.inl x1), some (.inl x2), some (.inl x3), some (.inl x4), some (.inl x5), some (.inl x6), some (.inl x4)]) ((hp 77).trans rfl) rfl ?_
            refine am_R.next ((hp 79).trans rfl) rfl ?_
            refine r_getR ((hp 80).trans rfl) (hw.o (i := 109) (by decide) rfl) (hw.r wr_109_3) ?_
            refine am_R.next ((hp 83).trans rfl) rfl ?_
            refine r_getI ((hp 84).trans rfl) (hw.o (i := 109) (by decide) rfl) ?_
            refine am_R.next ((hp 87).trans rfl) rfl ?_
            refine am_R.next ((hp 89).trans rfl) rfl ?_
            refine am_R.next ((hp 91).trans rfl) rfl ?_
            refine am_R.next ((hp 93).trans rfl) rfl ?_
            refine am_R.next ((hp 95).trans rfl) rfl ?_
            refine r_i2z ((hp 96).trans rfl) (by decide) ?_
            refine am_R.next ((hp 97).trans rfl) rfl ?_
            refine am_R.next ((hp 98).trans rfl) rfl ?_
            refine am_R.next ((hp 99).trans rfl) rfl ?_
            refine am_R.next ((hp 100).trans rfl) rfl ?_
            refine am_R.next ((hp 103).trans rfl) rfl ?_
            obtain ⟨c5, H⟩ := H
            obtain ⟨h6, eh6⟩ : ∃ z : am_H, z = am_put h 112 ((h.2.2.2 109 5).toNat) (am_and (am_shr x4 (am_w (24 - (am_w (8 * (x6.tmod 4)))))) 255) := ⟨_, rfl⟩
            have H := H h6 eh6
            refine r_iast ((hp 104).trans rfl) (hw.a (i := 112) (by decide) rfl c5.1 c5.2) ?_
            have hw : wf h6 := by rw [eh6]; exact hw.pa na_112
            change am_R _ _ _ _ _ _ (am_put h 112 ((h.2.2.2 109 5).toNat) (am_and (am_shr x4 (am_w (24 - (am_w (8 * (x6.tmod 4)))))) 255)) _
            rw [← eh6]
            refine am_R.next ((hp 105).trans rfl) rfl ?_
            refine am_R.next ((hp 106).trans rfl) rfl ?_
            refine r_getI ((hp 107).trans rfl) (hw.o (i := 109) (by decide) rfl) ?_
            refine am_R.next ((hp 110).trans rfl) rfl ?_
            refine am_R.next ((hp 111).trans rfl) rfl ?_
            obtain ⟨h7, eh7⟩ : ∃ z : am_H, z = am_put h6 109 5 (am_w ((h6.2.2.2 109 5) + 1)) := ⟨_, rfl⟩
            have H := H h7 eh7
            refine r_putI ((hp 112).trans rfl) (hw.o (i := 109) (by decide) rfl) ?_
            have hw : wf h7 := by rw [eh7]; exact hw.put np_109_5
            change am_R _ _ _ _ _ _ (am_put h6 109 5 (am_w ((h6.2.2.2 109 5) + 1))) _
            rw [← eh7]
            obtain ⟨y8, ey8⟩ : ∃ z : Int, z = am_w (x6 + 1) := ⟨_, rfl⟩
            have H := H y8 ey8
            refine am_R.next (lv' := [some (.inr (.inr ((109 : Nat) : Int))), some (.inl x1), some (.inl x2), some (.inl x3), some (.inl x4), some (.inl x5), some (.inl y8), some (.inl x4)]) (st' := []) (h' := h7) (pc' := 118) ((hp 115).trans rfl) (by rw [ey8]; rfl) ?_
            refine am_R.next ((hp 118).trans rfl) rfl ?_
            exact r_le hs in_4 (le_k (le_k (le_k (le_k (le_k (le_k (le_k (le_d le_n)))))))) H
        · have H := H.2 (Decidable.not_not.mp c14)
          refine am_R.next ((hp 59).trans rfl) rfl ?_
          refine am_R.next ((hp 60).trans rfl) rfl ?_
          refine am_R.next (lv' := [some (.inr (.inr ((109 : Nat) : Int))), some (.inl x1), some (.inl x2), some (.inl x3), some (.inl x4), some (.inl x5), some (.inl x6), some (.inl x3)]) ((hp 77).trans rfl) rfl ?_
          refine am_R.next ((hp 79).trans rfl) rfl ?_
          refine r_getR ((hp 80).trans rfl) (hw.o (i := 109) (by decide) rfl) (hw.r wr_109_3) ?_
          refine am_R.next ((hp 83).trans rfl) rfl ?_
          refine r_getI ((hp 84).trans rfl) (hw.o (i := 109) (by decide) rfl) ?_
          refine am_R.next ((hp 87).trans rfl) rfl ?_
          refine am_R.next ((hp 89).trans rfl) rfl ?_
          refine am_R.next ((hp 91).trans rfl) rfl ?_
          refine am_R.next ((hp 93).trans rfl) rfl ?_
          refine am_R.next ((hp 95).trans rfl) rfl ?_
          refine r_i2z ((hp 96).trans rfl) (by decide) ?_
          refine am_R.next ((hp 97).trans rfl) rfl ?_
          refine am_R.next ((hp 98).trans rfl) rfl ?_
          refine am_R.next ((hp 99).trans rfl) rfl ?_
          refine am_R.next ((hp 100).trans rfl) rfl ?_
          refine am_R.next ((hp 103).trans rfl) rfl ?_
          obtain ⟨c10, H⟩ := H
          obtain ⟨h11, eh11⟩ : ∃ z : am_H, z = am_put h 112 ((h.2.2.2 109 5).toNat) (am_and (am_shr x3 (am_w (24 - (am_w (8 * (x6.tmod 4)))))) 255) := ⟨_, rfl⟩
          have H := H h11 eh11
          refine r_iast ((hp 104).trans rfl) (hw.a (i := 112) (by decide) rfl c10.1 c10.2) ?_
          have hw : wf h11 := by rw [eh11]; exact hw.pa na_112
          change am_R _ _ _ _ _ _ (am_put h 112 ((h.2.2.2 109 5).toNat) (am_and (am_shr x3 (am_w (24 - (am_w (8 * (x6.tmod 4)))))) 255)) _
          rw [← eh11]
          refine am_R.next ((hp 105).trans rfl) rfl ?_
          refine am_R.next ((hp 106).trans rfl) rfl ?_
          refine r_getI ((hp 107).trans rfl) (hw.o (i := 109) (by decide) rfl) ?_
          refine am_R.next ((hp 110).trans rfl) rfl ?_
          refine am_R.next ((hp 111).trans rfl) rfl ?_
          obtain ⟨h12, eh12⟩ : ∃ z : am_H, z = am_put h11 109 5 (am_w ((h11.2.2.2 109 5) + 1)) := ⟨_, rfl⟩
          have H := H h12 eh12
          refine r_putI ((hp 112).trans rfl) (hw.o (i := 109) (by decide) rfl) ?_
          have hw : wf h12 := by rw [eh12]; exact hw.put np_109_5
          change am_R _ _ _ _ _ _ (am_put h11 109 5 (am_w ((h11.2.2.2 109 5) + 1))) _
          rw [← eh12]
          obtain ⟨y13, ey13⟩ : ∃ z : Int, z = am_w (x6 + 1) := ⟨_, rfl⟩
          have H := H y13 ey13
          refine am_R.next (lv' := [some (.inr (.inr ((109 : Nat) : Int))), some (.inl x1), some (.inl x2), some (.inl x3), some (.inl x4), some (.inl x5), some (.inl y13), some (.inl x3)]) (st' := []) (h' := h12) (pc' := 118) ((hp 115).trans rfl) (by rw [ey13]; rfl) ?_
          refine am_R.next ((hp 118).trans rfl) rfl ?_
          exact r_le hs in_4 (le_k (le_k (le_k (le_k (le_k (le_k (le_k (le_d le_n)))))))) H
      · have H := H.2 (Decidable.not_not.mp c19)
        refine am_R.next ((hp 48).trans rfl) rfl ?_
        refine am_R.next ((hp 49).trans rfl) rfl ?_
        refine am_R.next (lv' := [some (.inr (.inr ((109 : Nat) : Int))), some (.inl x1), some (.inl x2), some (.inl x3), some (.inl x4), some (.inl x5), some (.inl x6), some (.inl x2)]) ((hp 77).trans rfl) rfl ?_
        refine am_R.next ((hp 79).trans rfl) rfl ?_
        refine r_getR ((hp 80).trans rfl) (hw.o (i := 109) (by decide) rfl) (hw.r wr_109_3) ?_
        refine am_R.next ((hp 83).trans rfl) rfl ?_
        refine r_getI ((hp 84).trans rfl) (hw.o (i := 109) (by decide) rfl) ?_
        refine am_R.next ((hp 87).trans rfl) rfl ?_
        refine am_R.next ((hp 89).trans rfl) rfl ?_
        refine am_R.next ((hp 91).trans rfl) rfl ?_
        refine am_R.next ((hp 93).trans rfl) rfl ?_
        refine am_R.next ((hp 95).trans rfl) rfl ?_
        refine r_i2z ((hp 96).trans rfl) (by decide) ?_
        refine am_R.next ((hp 97).trans rfl) rfl ?_
        refine am_R.next ((hp 98).trans rfl) rfl ?_
        refine am_R.next ((hp 99).trans rfl) rfl ?_
        refine am_R.next ((hp 100).trans rfl) rfl ?_
        refine am_R.next ((hp 103).trans rfl) rfl ?_
        obtain ⟨c15, H⟩ := H
        obtain ⟨h16, eh16⟩ : ∃ z : am_H, z = am_put h 112 ((h.2.2.2 109 5).toNat) (am_and (am_shr x2 (am_w (24 - (am_w (8 * (x6.tmod 4)))))) 255) := ⟨_, rfl⟩
        have H := H h16 eh16
        refine r_iast ((hp 104).trans rfl) (hw.a (i := 112) (by decide) rfl c15.1 c15.2) ?_
        have hw : wf h16 := by rw [eh16]; exact hw.pa na_112
        change am_R _ _ _ _ _ _ (am_put h 112 ((h.2.2.2 109 5).toNat) (am_and (am_shr x2 (am_w (24 - (am_w (8 * (x6.tmod 4)))))) 255)) _
        rw [← eh16]
        refine am_R.next ((hp 105).trans rfl) rfl ?_
        refine am_R.next ((hp 106).trans rfl) rfl ?_
        refine r_getI ((hp 107).trans rfl) (hw.o (i := 109) (by decide) rfl) ?_
        refine am_R.next ((hp 110).trans rfl) rfl ?_
        refine am_R.next ((hp 111).trans rfl) rfl ?_
        obtain ⟨h17, eh17⟩ : ∃ z : am_H, z = am_put h16 109 5 (am_w ((h16.2.2.2 109 5) + 1)) := ⟨_, rfl⟩
        have H := H h17 eh17
        refine r_putI ((hp 112).trans rfl) (hw.o (i := 109) (by decide) rfl) ?_
        have hw : wf h17 := by rw [eh17]; exact hw.put np_109_5
        change am_R _ _ _ _ _ _ (am_put h16 109 5 (am_w ((h16.2.2.2 109 5) + 1))) _
        rw [← eh17]
        obtain ⟨y18, ey18⟩ : ∃ z : Int, z = am_w (x6 + 1) := ⟨_, rfl⟩
        have H := H y18 ey18
        refine am_R.next (lv' := [some (.inr (.inr ((109 : Nat) : Int))), some (.inl x1), some (.inl x2), some (.inl x3), some (.inl x4), some (.inl x5), some (.inl y18), some (.inl x2)]) (st' := []) (h' := h17) (pc' := 118) ((hp 115).trans rfl) (by rw [ey18]; rfl) ?_
        refine am_R.next ((hp 118).trans rfl) rfl ?_
        exact r_le hs in_4 (le_k (le_k (le_k (le_k (le_k (le_k (le_k (le_d le_n)))))))) H
    · have H := H.2 (Decidable.not_not.mp c24)
      refine am_R.next ((hp 37).trans rfl) rfl ?_
      refine am_R.next ((hp 38).trans rfl) rfl ?_
      refine am_R.next (lv' := [some (.inr (.inr ((109 : Nat) : Int))), some (.inl x1), some (.inl x2), some (.inl x3), some (.inl x4), some (.inl x5), some (.inl x6), some (.inl x1)]) ((hp 77).trans rfl) rfl ?_
      refine am_R.next ((hp 79).trans rfl) rfl ?_
      refine r_getR ((hp 80).trans rfl) (hw.o (i := 109) (by decide) rfl) (hw.r wr_109_3) ?_
      refine am_R.next ((hp 83).trans rfl) rfl ?_
      refine r_getI ((hp 84).trans rfl) (hw.o (i := 109) (by decide) rfl) ?_
      refine am_R.next ((hp 87).trans rfl) rfl ?_
      refine am_R.next ((hp 89).trans rfl) rfl ?_
      refine am_R.next ((hp 91).trans rfl) rfl ?_
      refine am_R.next ((hp 93).trans rfl) rfl ?_
      refine am_R.next ((hp 95).trans rfl) rfl ?_
      refine r_i2z ((hp 96).trans rfl) (by decide) ?_
      refine am_R.next ((hp 97).trans rfl) rfl ?_
      refine am_R.next ((hp 98).trans rfl) rfl ?_
      refine am_R.next ((hp 99).trans rfl) rfl ?_
      refine am_R.next ((hp 100).trans rfl) rfl ?_
      refine am_R.next ((hp 103).trans rfl) rfl ?_
      obtain ⟨c20, H⟩ := H
      obtain ⟨h21, eh21⟩ : ∃ z : am_H, z = am_put h 112 ((h.2.2.2 109 5).toNat) (am_and (am_shr x1 (am_w (24 - (am_w (8 * (x6.tmod 4)))))) 255) := ⟨_, rfl⟩
      have H := H h21 eh21
      refine r_iast ((hp 104).trans rfl) (hw.a (i := 112) (by decide) rfl c20.1 c20.2) ?_
      have hw : wf h21 := by rw [eh21]; exact hw.pa na_112
      change am_R _ _ _ _ _ _ (am_put h 112 ((h.2.2.2 109 5).toNat) (am_and (am_shr x1 (am_w (24 - (am_w (8 * (x6.tmod 4)))))) 255)) _
      rw [← eh21]
      refine am_R.next ((hp 105).trans rfl) rfl ?_
      refine am_R.next ((hp 106).trans rfl) rfl ?_
      refine r_getI ((hp 107).trans rfl) (hw.o (i := 109) (by decide) rfl) ?_
      refine am_R.next ((hp 110).trans rfl) rfl ?_
      refine am_R.next ((hp 111).trans rfl) rfl ?_
      obtain ⟨h22, eh22⟩ : ∃ z : am_H, z = am_put h21 109 5 (am_w ((h21.2.2.2 109 5) + 1)) := ⟨_, rfl⟩
      have H := H h22 eh22
      refine r_putI ((hp 112).trans rfl) (hw.o (i := 109) (by decide) rfl) ?_
      have hw : wf h22 := by rw [eh22]; exact hw.put np_109_5
      change am_R _ _ _ _ _ _ (am_put h21 109 5 (am_w ((h21.2.2.2 109 5) + 1))) _
      rw [← eh22]
      obtain ⟨y23, ey23⟩ : ∃ z : Int, z = am_w (x6 + 1) := ⟨_, rfl⟩
      have H := H y23 ey23
      refine am_R.next (lv' := [some (.inr (.inr ((109 : Nat) : Int))), some (.inl x1), some (.inl x2), some (.inl x3), some (.inl x4), some (.inl x5), some (.inl y23), some (.inl x1)]) (st' := []) (h' := h22) (pc' := 118) ((hp 115).trans rfl) (by rw [ey23]; rfl) ?_
      refine am_R.next ((hp 118).trans rfl) rfl ?_
      exact r_le hs in_4 (le_k (le_k (le_k (le_k (le_k (le_k (le_k (le_d le_n)))))))) H
theorem w_M_see_0 {scr : Nat × (Nat → Int)} {d : Nat} {h : am_H} {Q : Option am_V → am_H → Prop} {x1 : Int} (hs : am_sc scr) (hw : wf h) (H : (¬ (x1 < (h.2.2.2 109 8)) → (Q (some (.inl (-1))) h)) ∧ (x1 < (h.2.2.2 109 8) → ((0 ≤ x1 ∧ x1 < 900) ∧ (Q (some (.inl (h.2.2.2 112 x1.toNat))) h)))) : am_R (am_prog scr) d f_M_see 0 [some (.inr (.inr ((109 : Nat) : Int))), some (.inl x1)] [] h Q := by
  have hp : ∀ k, (am_prog scr).1 f_M_see k = c_M_see k := fun _ => rfl
  refine am_R.next ((hp 0).trans rfl) rfl ?_
  refine am_R.next ((hp 1).trans rfl) rfl ?_
  refine r_getI ((hp 2).trans rfl) (hw.o (i := 109) (by decide) rfl) ?_
  refine r_ic ((hp 5).trans rfl) (fun c2 => ?_) (fun c2 => ?_)
  · have H := H.1 c2
    refine am_R.next ((hp 17).trans rfl) rfl ?_
    exact am_R.ret ((hp 18).trans rfl) rfl H
  · have H := H.2 (Decidable.not_not.mp c2)
    refine am_R.next ((hp 8).trans rfl) rfl ?_
    refine r_getR ((hp 9).trans rfl) (hw.o (i := 109) (by decide) rfl) (hw.r wr_109_3) ?_
    refine am_R.next ((hp 12).trans rfl) rfl ?_
    obtain ⟨c1, H⟩ := H
    refine r_iald ((hp 13).trans rfl) (hw.a (i := 112) (by decide) rfl c1.1 c1.2) ?_
    refine am_R.next ((hp 14).trans rfl) rfl ?_
    exact am_R.ret ((hp 18).trans rfl) rfl H
theorem w_M_isSmall_0 {scr : Nat × (Nat → Int)} {d : Nat} {h : am_H} {Q : Option am_V → am_H → Prop} {x0 : Int} (hs : am_sc scr) (hw : wf h) (H : (x0 < 97 → (Q (some (.inl 0)) h)) ∧ (¬ (x0 < 97) → ((122 < x0 → (Q (some (.inl 0)) h)) ∧ (¬ (122 < x0) → (Q (some (.inl 1)) h))))) : am_R (am_prog scr) d f_M_isSmall 0 [some (.inl x0)] [] h Q := by
  have hp : ∀ k, (am_prog scr).1 f_M_isSmall k = c_M_isSmall k := fun _ => rfl
  refine am_R.next ((hp 0).trans rfl) rfl ?_
  refine am_R.next ((hp 1).trans rfl) rfl ?_
  refine r_ic ((hp 3).trans rfl) (fun c2 => ?_) (fun c2 => ?_)
  · have H := H.1 c2
    refine am_R.next ((hp 16).trans rfl) rfl ?_
    exact r_zret ((hp 17).trans rfl) (Or.inl rfl) H
  · have H := H.2 c2
    refine am_R.next ((hp 6).trans rfl) rfl ?_
    refine am_R.next ((hp 7).trans rfl) rfl ?_
    refine r_ic ((hp 9).trans rfl) (fun c1 => ?_) (fun c1 => ?_)
    · have H := H.1 c1
      refine am_R.next ((hp 16).trans rfl) rfl ?_
      exact r_zret ((hp 17).trans rfl) (Or.inl rfl) H
    · have H := H.2 c1
      refine am_R.next ((hp 12).trans rfl) rfl ?_
      refine am_R.next ((hp 13).trans rfl) rfl ?_
      exact r_zret ((hp 17).trans rfl) (Or.inr rfl) H
theorem w_M_isDigit_0 {scr : Nat × (Nat → Int)} {d : Nat} {h : am_H} {Q : Option am_V → am_H → Prop} {x0 : Int} (hs : am_sc scr) (hw : wf h) (H : (x0 < 48 → (Q (some (.inl 0)) h)) ∧ (¬ (x0 < 48) → ((57 < x0 → (Q (some (.inl 0)) h)) ∧ (¬ (57 < x0) → (Q (some (.inl 1)) h))))) : am_R (am_prog scr) d f_M_isDigit 0 [some (.inl x0)] [] h Q := by
  have hp : ∀ k, (am_prog scr).1 f_M_isDigit k = c_M_isDigit k := fun _ => rfl
  refine am_R.next ((hp 0).trans rfl) rfl ?_
  refine am_R.next ((hp 1).trans rfl) rfl ?_
  refine r_ic ((hp 3).trans rfl) (fun c2 => ?_) (fun c2 => ?_)
  · have H := H.1 c2
    refine am_R.next ((hp 16).trans rfl) rfl ?_
    exact r_zret ((hp 17).trans rfl) (Or.inl rfl) H
  · have H := H.2 c2
    refine am_R.next ((hp 6).trans rfl) rfl ?_
    refine am_R.next ((hp 7).trans rfl) rfl ?_
    refine r_ic ((hp 9).trans rfl) (fun c1 => ?_) (fun c1 => ?_)
    · have H := H.1 c1
      refine am_R.next ((hp 16).trans rfl) rfl ?_
      exact r_zret ((hp 17).trans rfl) (Or.inl rfl) H
    · have H := H.2 c1
      refine am_R.next ((hp 12).trans rfl) rfl ?_
      refine am_R.next ((hp 13).trans rfl) rfl ?_
      exact r_zret ((hp 17).trans rfl) (Or.inr rfl) H
theorem w_M_keyAt_0 {scr : Nat × (Nat → Int)} {d : Nat} {h : am_H} {Q : Option am_V → am_H → Prop} (hs : am_sc scr) (hw : wf h) (H : am_R (am_prog scr) (d + 1) f_M_keyAt 4 [some (.inr (.inr ((109 : Nat) : Int))), some (.inl 0), some (.inl 1), none] [] h Q) : am_R (am_prog scr) (d + 1) f_M_keyAt 0 [some (.inr (.inr ((109 : Nat) : Int))), none, none, none] [] h Q := by
  have hp : ∀ k, (am_prog scr).1 f_M_keyAt k = c_M_keyAt k := fun _ => rfl
  refine am_R.next ((hp 0).trans rfl) rfl ?_
  refine am_R.next (lv' := [some (.inr (.inr ((109 : Nat) : Int))), some (.inl 0), none, none]) ((hp 1).trans rfl) rfl ?_
  refine am_R.next ((hp 2).trans rfl) rfl ?_
  refine am_R.next (lv' := [some (.inr (.inr ((109 : Nat) : Int))), some (.inl 0), some (.inl 1), none]) ((hp 3).trans rfl) rfl ?_
  exact H
theorem w_M_keyAt_4 {scr : Nat × (Nat → Int)} {d : Nat} {h : am_H} {Q : Option am_V → am_H → Prop} {x1 x2 : Int} (hs : am_sc scr) (hw : wf h) (H : am_R (am_prog scr) d f_jS_length 0 [some (.inr (.inr (-39)))] [] h (fun v g1 => ∃ r2 : Int, v = some (.inl r2) ∧ wf g1 ∧ ((¬ (x2 < r2) → (Q (some (.inl 24)) g1)) ∧ (x2 < r2 → (am_R (am_prog scr) (d + 1) f_M_keyAt 15 [some (.inr (.inr ((109 : Nat) : Int))), some (.inl x1), some (.inl x2), some (.inl 0)] [] g1 Q))))) : am_R (am_prog scr) (d + 1) f_M_keyAt 4 [some (.inr (.inr ((109 : Nat) : Int))), some (.inl x1), some (.inl x2), none] [] h Q := by
  have hp : ∀ k, (am_prog scr).1 f_M_keyAt k = c_M_keyAt k := fun _ => rfl
  refine am_R.next ((hp 4).trans rfl) rfl ?_
  refine am_R.next ((hp 5).trans rfl) rfl ?_
  refine r_ct (bs := []) (st' := [.inl x2]) ((hp 7).trans rfl) (by decide) rfl rfl (Nat.le_of_ble_eq_true rfl) (Nat.le_of_ble_eq_true rfl) (am_R.post H (fun v g1 hq => ?_))
  obtain ⟨r2, rfl, hw, H⟩ := hq
  change am_R _ _ _ _ _ [.inl r2, .inl x2] _ _
  refine r_ic ((hp 10).trans rfl) (fun c3 => ?_) (fun c3 => ?_)
  · have H := H.1 c3
    refine am_R.next ((hp 123).trans rfl) rfl ?_
    exact am_R.ret ((hp 125).trans rfl) rfl H
  · have H := H.2 (Decidable.not_not.mp c3)
    refine am_R.next ((hp 13).trans rfl) rfl ?_
    refine am_R.next (lv' := [some (.inr (.inr ((109 : Nat) : Int))), some (.inl x1), some (.inl x2), some (.inl 0)]) ((hp 14).trans rfl) rfl ?_
    exact H
theorem w_M_keyAt_15 {scr : Nat × (Nat → Int)} {d : Nat} {h : am_H} {Q : Option am_V → am_H → Prop} {x1 x2 x3 : Int} (hs : am_sc scr) (hw : wf h) (H : am_R (am_prog scr) d f_jS_charAt 0 [some (.inr (.inr (-39))), some (.inl (am_w (x2 + x3)))] [] h (fun v g1 => ∃ r2 : Int, v = some (.inl r2) ∧ wf g1 ∧ ((r2 = 32 → (am_R (am_prog scr) (d + 1) f_M_keyAt 69 [some (.inr (.inr ((109 : Nat) : Int))), some (.inl x1), some (.inl x2), some (.inl x3)] [] g1 Q)) ∧ (¬ (r2 = 32) → ((¬ ((am_w ((g1.2.2.2 109 6) + x3)) < (g1.2.2.2 109 7)) → (am_R (am_prog scr) (d + 1) f_M_keyAt 69 [some (.inr (.inr ((109 : Nat) : Int))), some (.inl x1), some (.inl x2), some (.inl x3)] [] g1 Q)) ∧ ((am_w ((g1.2.2.2 109 6) + x3)) < (g1.2.2.2 109 7) → ((0 ≤ (am_w ((g1.2.2.2 109 6) + x3)) ∧ (am_w ((g1.2.2.2 109 6) + x3)) < 900) ∧ (am_R (am_prog scr) d f_jS_charAt 0 [some (.inr (.inr (-39))), some (.inl (am_w (x2 + x3)))] [] g1 (fun v g4 => ∃ r5 : Int, v = some (.inl r5) ∧ wf g4 ∧ ((¬ ((g1.2.2.2 112 ((am_w ((g1.2.2.2 109 6) + x3)).toNat)) = r5) → (am_R (am_prog scr) (d + 1) f_M_keyAt 69 [some (.inr (.inr ((109 : Nat) : Int))), some (.inl x1), some (.inl x2), some (.inl x3)] [] g4 Q)) ∧ ((g1.2.2.2 112 ((am_w ((g1.2.2.2 109 6) + x3)).toNat)) = r5 → (∀ y6 : Int, y6 = am_w (x3 + 1) → (am_R (am_prog scr) (d + 1) f_M_keyAt 15 [some (.inr (.inr ((109 : Nat) : Int))), some (.inl x1), some (.inl x2), some (.inl y6)] [] g4 Q))))))))))))) : am_R (am_prog scr) (d + 1) f_M_keyAt 15 [some (.inr (.inr ((109 : Nat) : Int))), some (.inl x1), some (.inl x2), some (.inl x3)] [] h Q := by
  have hp : ∀ k, (am_prog scr).1 f_M_keyAt k = c_M_keyAt k := fun _ => rfl
  refine am_R.next ((hp 15).trans rfl) rfl ?_
  refine am_R.next ((hp 17).trans rfl) rfl ?_
  refine am_R.next ((hp 18).trans rfl) rfl ?_
  refine am_R.next ((hp 19).trans rfl) rfl ?_
  refine r_ct (bs := [.inl (am_w (x2 + x3))]) (st' := []) ((hp 20).trans rfl) (by decide) rfl rfl (Nat.le_of_ble_eq_true rfl) (Nat.le_of_ble_eq_true rfl) (am_R.post H (fun v g1 hq => ?_))
  obtain ⟨r2, rfl, hw, H⟩ := hq
  change am_R _ _ _ _ _ [.inl r2] _ _
  refine am_R.next ((hp 23).trans rfl) rfl ?_
  refine r_ic ((hp 25).trans rfl) (fun c9 => ?_) (fun c9 => ?_)
  · have H := H.1 c9
    exact H
  · have H := H.2 c9
    refine am_R.next ((hp 28).trans rfl) rfl ?_
    refine r_getI ((hp 29).trans rfl) (hw.o (i := 109) (by decide) rfl) ?_
    refine am_R.next ((hp 32).trans rfl) rfl ?_
    refine am_R.next ((hp 33).trans rfl) rfl ?_
    refine am_R.next ((hp 34).trans rfl) rfl ?_
    refine r_getI ((hp 35).trans rfl) (hw.o (i := 109) (by decide) rfl) ?_
    refine r_ic ((hp 38).trans rfl) (fun c8 => ?_) (fun c8 => ?_)
    · have H := H.1 c8
      exact H
    · have H := H.2 (Decidable.not_not.mp c8)
      refine am_R.next ((hp 41).trans rfl) rfl ?_
      refine r_getR ((hp 42).trans rfl) (hw.o (i := 109) (by decide) rfl) (hw.r wr_109_3) ?_
      refine am_R.next ((hp 45).trans rfl) rfl ?_
      refine r_getI ((hp 46).trans rfl) (hw.o (i := 109) (by decide) rfl) ?_
      refine am_R.next ((hp 49).trans rfl) rfl ?_
      refine am_R.next ((hp 50).trans rfl) rfl ?_
      obtain ⟨c3, H⟩ := H
      refine r_iald ((hp 51).trans rfl) (hw.a (i := 112) (by decide) rfl c3.1 c3.2) ?_
      refine am_R.next ((hp 52).trans rfl) rfl ?_
      refine am_R.next ((hp 54).trans rfl) rfl ?_
      refine am_R.next ((hp 55).trans rfl) rfl ?_
      refine am_R.next ((hp 56).trans rfl) rfl ?_
      refine r_ct (bs := [.inl (am_w (x2 + x3))]) (st' := [.inl (g1.2.2.2 112 ((am_w ((g1.2.2.2 109 6) + x3)).toNat))]) ((hp 57).trans rfl) (by decide) rfl rfl (Nat.le_of_ble_eq_true rfl) (Nat.le_of_ble_eq_true rfl) (am_R.post H (fun v g4 hq => ?_))
      obtain ⟨r5, rfl, hw, H⟩ := hq
      change am_R _ _ _ _ _ [.inl r5, .inl (g1.2.2.2 112 ((am_w ((g1.2.2.2 109 6) + x3)).toNat))] _ _
      refine r_ic ((hp 60).trans rfl) (fun c7 => ?_) (fun c7 => ?_)
      · have H := H.1 c7
        exact H
      · have H := H.2 (Decidable.not_not.mp c7)
        obtain ⟨y6, ey6⟩ : ∃ z : Int, z = am_w (x3 + 1) := ⟨_, rfl⟩
        have H := H y6 ey6
        refine am_R.next (lv' := [some (.inr (.inr ((109 : Nat) : Int))), some (.inl x1), some (.inl x2), some (.inl y6)]) (st' := []) (h' := g4) (pc' := 66) ((hp 63).trans rfl) (by rw [ey6]; rfl) ?_
        refine am_R.next ((hp 66).trans rfl) rfl ?_
        exact H
theorem w_M_keyAt_69 {scr : Nat × (Nat → Int)} {d : Nat} {h : am_H} {Q : Option am_V → am_H → Prop} {x1 x2 x3 : Int} (hs : am_sc scr) (hw : wf h) (H : am_R (am_prog scr) d f_jS_charAt 0 [some (.inr (.inr (-39))), some (.inl (am_w (x2 + x3)))] [] h (fun v g1 => ∃ r2 : Int, v = some (.inl r2) ∧ wf g1 ∧ ((¬ (r2 = 32) → (am_R (am_prog scr) (d + 1) f_M_keyAt 97 [some (.inr (.inr ((109 : Nat) : Int))), some (.inl x1), some (.inl x2), some (.inl x3)] [] g1 Q)) ∧ (r2 = 32 → ((¬ ((am_w ((g1.2.2.2 109 6) + x3)) = (g1.2.2.2 109 7)) → (am_R (am_prog scr) (d + 1) f_M_keyAt 97 [some (.inr (.inr ((109 : Nat) : Int))), some (.inl x1), some (.inl x2), some (.inl x3)] [] g1 Q)) ∧ ((am_w ((g1.2.2.2 109 6) + x3)) = (g1.2.2.2 109 7) → (Q (some (.inl x1)) g1))))))) : am_R (am_prog scr) (d + 1) f_M_keyAt 69 [some (.inr (.inr ((109 : Nat) : Int))), some (.inl x1), some (.inl x2), some (.inl x3)] [] h Q := by
  have hp : ∀ k, (am_prog scr).1 f_M_keyAt k = c_M_keyAt k := fun _ => rfl
  refine am_R.next ((hp 69).trans rfl) rfl ?_
  refine am_R.next ((hp 71).trans rfl) rfl ?_
  refine am_R.next ((hp 72).trans rfl) rfl ?_
  refine am_R.next ((hp 73).trans rfl) rfl ?_
  refine r_ct (bs := [.inl (am_w (x2 + x3))]) (st' := []) ((hp 74).trans rfl) (by decide) rfl rfl (Nat.le_of_ble_eq_true rfl) (Nat.le_of_ble_eq_true rfl) (am_R.post H (fun v g1 hq => ?_))
  obtain ⟨r2, rfl, hw, H⟩ := hq
  change am_R _ _ _ _ _ [.inl r2] _ _
  refine am_R.next ((hp 77).trans rfl) rfl ?_
  refine r_ic ((hp 79).trans rfl) (fun c4 => ?_) (fun c4 => ?_)
  · have H := H.1 c4
    exact H
  · have H := H.2 (Decidable.not_not.mp c4)
    refine am_R.next ((hp 82).trans rfl) rfl ?_
    refine r_getI ((hp 83).trans rfl) (hw.o (i := 109) (by decide) rfl) ?_
    refine am_R.next ((hp 86).trans rfl) rfl ?_
    refine am_R.next ((hp 87).trans rfl) rfl ?_
    refine am_R.next ((hp 88).trans rfl) rfl ?_
    refine r_getI ((hp 89).trans rfl) (hw.o (i := 109) (by decide) rfl) ?_
    refine r_ic ((hp 92).trans rfl) (fun c3 => ?_) (fun c3 => ?_)
    · have H := H.1 c3
      exact H
    · have H := H.2 (Decidable.not_not.mp c3)
      refine am_R.next ((hp 95).trans rfl) rfl ?_
      exact am_R.ret ((hp 96).trans rfl) rfl H
theorem w_M_keyAt_97 {scr : Nat × (Nat → Int)} {d : Nat} {h : am_H} {Q : Option am_V → am_H → Prop} {x1 x2 x3 : Int} (hs : am_sc scr) (hw : wf h) (H : am_R (am_prog scr) d f_jS_charAt 0 [some (.inr (.inr (-39))), some (.inl x2)] [] h (fun v g1 => ∃ r2 : Int, v = some (.inl r2) ∧ wf g1 ∧ ((r2 = 32 → (∀ y3 : Int, y3 = am_w (x2 + 1) → (∀ y4 : Int, y4 = am_w (x1 + 1) → (am_R (am_prog scr) (d + 1) f_M_keyAt 4 [some (.inr (.inr ((109 : Nat) : Int))), some (.inl y4), some (.inl y3), none] [] g1 Q)))) ∧ (¬ (r2 = 32) → (∀ y5 : Int, y5 = am_w (x2 + 1) → (am_R (am_prog scr) (d + 1) f_M_keyAt 97 [some (.inr (.inr ((109 : Nat) : Int))), some (.inl x1), some (.inl y5), some (.inl x3)] [] g1 Q)))))) : am_R (am_prog scr) (d + 1) f_M_keyAt 97 [some (.inr (.inr ((109 : Nat) : Int))), some (.inl x1), some (.inl x2), some (.inl x3)] [] h Q := by
  have hp : ∀ k, (am_prog scr).1 f_M_keyAt k = c_M_keyAt k := fun _ => rfl
  refine am_R.next ((hp 97).trans rfl) rfl ?_
  refine am_R.next ((hp 99).trans rfl) rfl ?_
  refine r_ct (bs := [.inl x2]) (st' := []) ((hp 100).trans rfl) (by decide) rfl rfl (Nat.le_of_ble_eq_true rfl) (Nat.le_of_ble_eq_true rfl) (am_R.post H (fun v g1 hq => ?_))
  obtain ⟨r2, rfl, hw, H⟩ := hq
  change am_R _ _ _ _ _ [.inl r2] _ _
  refine am_R.next ((hp 103).trans rfl) rfl ?_
  refine r_ic ((hp 105).trans rfl) (fun c6 => ?_) (fun c6 => ?_)
  · have H := H.1 c6
    obtain ⟨y3, ey3⟩ : ∃ z : Int, z = am_w (x2 + 1) := ⟨_, rfl⟩
    have H := H y3 ey3
    refine am_R.next (lv' := [some (.inr (.inr ((109 : Nat) : Int))), some (.inl x1), some (.inl y3), some (.inl x3)]) (st' := []) (h' := g1) (pc' := 117) ((hp 114).trans rfl) (by rw [ey3]; rfl) ?_
    obtain ⟨y4, ey4⟩ : ∃ z : Int, z = am_w (x1 + 1) := ⟨_, rfl⟩
    have H := H y4 ey4
    refine am_R.next (lv' := [some (.inr (.inr ((109 : Nat) : Int))), some (.inl y4), some (.inl y3), some (.inl x3)]) (st' := []) (h' := g1) (pc' := 120) ((hp 117).trans rfl) (by rw [ey4]; rfl) ?_
    refine am_R.next ((hp 120).trans rfl) rfl ?_
    exact r_le hs in_8 (le_k (le_k (le_k (le_d le_n)))) H
  · have H := H.2 c6
    obtain ⟨y5, ey5⟩ : ∃ z : Int, z = am_w (x2 + 1) := ⟨_, rfl⟩
    have H := H y5 ey5
    refine am_R.next (lv' := [some (.inr (.inr ((109 : Nat) : Int))), some (.inl x1), some (.inl y5), some (.inl x3)]) (st' := []) (h' := g1) (pc' := 111) ((hp 108).trans rfl) (by rw [ey5]; rfl) ?_
    refine am_R.next ((hp 111).trans rfl) rfl ?_
    exact H
theorem w_M_next_0 {scr : Nat × (Nat → Int)} {d : Nat} {h : am_H} {Q : Option am_V → am_H → Prop} (hs : am_sc scr) (hw : wf h) (H : ∀ h1 : am_H, h1 = am_put h 109 6 (h.2.2.2 109 7) → (am_R (am_prog scr) (d + 1) f_M_next 8 [some (.inr (.inr ((109 : Nat) : Int))), none] [] h1 Q)) : am_R (am_prog scr) (d + 1) f_M_next 0 [some (.inr (.inr ((109 : Nat) : Int))), none] [] h Q := by
  have hp : ∀ k, (am_prog scr).1 f_M_next k = c_M_next k := fun _ => rfl
  refine am_R.next ((hp 0).trans rfl) rfl ?_
  refine am_R.next ((hp 1).trans rfl) rfl ?_
  refine r_getI ((hp 2).trans rfl) (hw.o (i := 109) (by decide) rfl) ?_
  obtain ⟨h1, eh1⟩ : ∃ z : am_H, z = am_put h 109 6 (h.2.2.2 109 7) := ⟨_, rfl⟩
  have H := H h1 eh1
  refine r_putI ((hp 5).trans rfl) (hw.o (i := 109) (by decide) rfl) ?_
  have hw : wf h1 := by rw [eh1]; exact hw.put np_109_6
  change am_R _ _ _ _ _ _ (am_put h 109 6 (h.2.2.2 109 7)) _
  rw [← eh1]
  exact H
theorem w_M_next_8 {scr : Nat × (Nat → Int)} {d : Nat} {h : am_H} {Q : Option am_V → am_H → Prop} (hs : am_sc scr) (hw : wf h) (H : am_R (am_prog scr) d f_M_see 0 [some (.inr (.inr ((109 : Nat) : Int))), some (.inl (h.2.2.2 109 6))] [] h (fun v g1 => ∃ r2 : Int, v = some (.inl r2) ∧ wf g1 ∧ ((r2 = 10 → (∀ h3 : am_H, h3 = am_put g1 109 6 (am_w ((g1.2.2.2 109 6) + 1)) → (am_R (am_prog scr) (d + 1) f_M_next 8 [some (.inr (.inr ((109 : Nat) : Int))), none] [] h3 Q))) ∧ (¬ (r2 = 10) → (am_R (am_prog scr) d f_M_see 0 [some (.inr (.inr ((109 : Nat) : Int))), some (.inl (g1.2.2.2 109 6))] [] g1 (fun v g4 => ∃ r5 : Int, v = some (.inl r5) ∧ wf g4 ∧ ((¬ (r5 = 32) → (∀ h6 : am_H, h6 = am_put g4 109 7 (g4.2.2.2 109 6) → (((h6.2.2.2 109 6) < (h6.2.2.2 109 8) → (am_R (am_prog scr) d f_M_see 0 [some (.inr (.inr ((109 : Nat) : Int))), some (.inl (h6.2.2.2 109 6))] [] h6 (fun v g7 => ∃ r8 : Int, v = some (.inl r8) ∧ wf g7 ∧ (am_R (am_prog scr) d f_M_isSmall 0 [some (.inl r8)] [] g7 (fun v g9 => ∃ r10 : Int, v = some (.inl r10) ∧ wf g9 ∧ ((r10 = 0 → (am_R (am_prog scr) d f_M_see 0 [some (.inr (.inr ((109 : Nat) : Int))), some (.inl (g9.2.2.2 109 6))] [] g9 (fun v g11 => ∃ r12 : Int, v = some (.inl r12) ∧ wf g11 ∧ (am_R (am_prog scr) d f_M_isDigit 0 [some (.inl r12)] [] g11 (fun v g13 => ∃ r14 : Int, v = some (.inl r14) ∧ wf g13 ∧ ((r14 = 0 → (∀ h15 : am_H, h15 = am_put g13 109 7 (am_w ((g13.2.2.2 109 7) + 1)) → (∀ h16 : am_H, h16 = am_put h15 109 9 27 → (am_R (am_prog scr) (d + 1) f_M_next 254 [some (.inr (.inr ((109 : Nat) : Int))), some (.inl 0)] [] h16 Q)))) ∧ (¬ (r14 = 0) → (∀ h17 : am_H, h17 = am_put g13 109 10 0 → (am_R (am_prog scr) (d + 1) f_M_next 146 [some (.inr (.inr ((109 : Nat) : Int))), none] [] h17 Q))))))))) ∧ (¬ (r10 = 0) → (am_R (am_prog scr) (d + 1) f_M_next 89 [some (.inr (.inr ((109 : Nat) : Int))), none] [] g9 Q)))))))) ∧ (¬ ((h6.2.2.2 109 6) < (h6.2.2.2 109 8)) → (∀ h20 : am_H, h20 = am_put h6 109 9 26 → (Q none h20)))))) ∧ (r5 = 32 → (∀ h22 : am_H, h22 = am_put g4 109 6 (am_w ((g4.2.2.2 109 6) + 1)) → (am_R (am_prog scr) (d + 1) f_M_next 8 [some (.inr (.inr ((109 : Nat) : Int))), none] [] h22 Q)))))))))) : am_R (am_prog scr) (d + 1) f_M_next 8 [some (.inr (.inr ((109 : Nat) : Int))), none] [] h Q := by
  have hp : ∀ k, (am_prog scr).1 f_M_next k = c_M_next k := fun _ => rfl
  refine am_R.next ((hp 8).trans rfl) rfl ?_
  refine am_R.next ((hp 9).trans rfl) rfl ?_
  refine r_getI ((hp 10).trans rfl) (hw.o (i := 109) (by decide) rfl) ?_
  refine r_cv (bs := [.inl (h.2.2.2 109 6)]) (st' := []) ((hp 13).trans rfl) (hw.o (i := 109) (by decide) rfl) rfl rfl (Nat.le_of_ble_eq_true rfl) (Nat.le_of_ble_eq_true rfl) (am_R.post H (fun v g1 hq => ?_))
  obtain ⟨r2, rfl, hw, H⟩ := hq
  change am_R _ _ _ _ _ [.inl r2] _ _
  refine am_R.next ((hp 16).trans rfl) rfl ?_
  refine r_ic ((hp 18).trans rfl) (fun c24 => ?_) (fun c24 => ?_)
  · have H := H.1 c24
    refine am_R.next ((hp 34).trans rfl) rfl ?_
    refine am_R.next ((hp 35).trans rfl) rfl ?_
    refine r_getI ((hp 36).trans rfl) (hw.o (i := 109) (by decide) rfl) ?_
    refine am_R.next ((hp 39).trans rfl) rfl ?_
    refine am_R.next ((hp 40).trans rfl) rfl ?_
    obtain ⟨h3, eh3⟩ : ∃ z : am_H, z = am_put g1 109 6 (am_w ((g1.2.2.2 109 6) + 1)) := ⟨_, rfl⟩
    have H := H h3 eh3
    refine r_putI ((hp 41).trans rfl) (hw.o (i := 109) (by decide) rfl) ?_
    have hw : wf h3 := by rw [eh3]; exact hw.put np_109_6
    change am_R _ _ _ _ _ _ (am_put g1 109 6 (am_w ((g1.2.2.2 109 6) + 1))) _
    rw [← eh3]
    refine am_R.next ((hp 44).trans rfl) rfl ?_
    exact H
  · have H := H.2 c24
    refine am_R.next ((hp 21).trans rfl) rfl ?_
    refine am_R.next ((hp 22).trans rfl) rfl ?_
    refine r_getI ((hp 23).trans rfl) (hw.o (i := 109) (by decide) rfl) ?_
    refine r_cv (bs := [.inl (g1.2.2.2 109 6)]) (st' := []) ((hp 26).trans rfl) (hw.o (i := 109) (by decide) rfl) rfl rfl (Nat.le_of_ble_eq_true rfl) (Nat.le_of_ble_eq_true rfl) (am_R.post H (fun v g4 hq => ?_))
    obtain ⟨r5, rfl, hw, H⟩ := hq
    change am_R _ _ _ _ _ [.inl r5] _ _
    refine am_R.next ((hp 29).trans rfl) rfl ?_
    refine r_ic ((hp 31).trans rfl) (fun c23 => ?_) (fun c23 => ?_)
    · have H := H.1 c23
      refine am_R.next ((hp 47).trans rfl) rfl ?_
      refine am_R.next ((hp 48).trans rfl) rfl ?_
      refine r_getI ((hp 49).trans rfl) (hw.o (i := 109) (by decide) rfl) ?_
      obtain ⟨h6, eh6⟩ : ∃ z : am_H, z = am_put g4 109 7 (g4.2.2.2 109 6) := ⟨_, rfl⟩
      have H := H h6 eh6
      refine r_putI ((hp 52).trans rfl) (hw.o (i := 109) (by decide) rfl) ?_
      have hw : wf h6 := by rw [eh6]; exact hw.put np_109_7
      change am_R _ _ _ _ _ _ (am_put g4 109 7 (g4.2.2.2 109 6)) _
      rw [← eh6]
      refine am_R.next ((hp 55).trans rfl) rfl ?_
      refine r_getI ((hp 56).trans rfl) (hw.o (i := 109) (by decide) rfl) ?_
      refine am_R.next ((hp 59).trans rfl) rfl ?_
      refine r_getI ((hp 60).trans rfl) (hw.o (i := 109) (by decide) rfl) ?_
      refine r_ic ((hp 63).trans rfl) (fun c21 => ?_) (fun c21 => ?_)
      · have H := H.1 c21
        refine am_R.next ((hp 75).trans rfl) rfl ?_
        refine am_R.next ((hp 76).trans rfl) rfl ?_
        refine r_getI ((hp 77).trans rfl) (hw.o (i := 109) (by decide) rfl) ?_
        refine r_cv (bs := [.inl (h6.2.2.2 109 6)]) (st' := []) ((hp 80).trans rfl) (hw.o (i := 109) (by decide) rfl) rfl rfl (Nat.le_of_ble_eq_true rfl) (Nat.le_of_ble_eq_true rfl) (am_R.post H (fun v g7 hq => ?_))
        obtain ⟨r8, rfl, hw, H⟩ := hq
        change am_R _ _ _ _ _ [.inl r8] _ _
        refine r_cs (as := [.inl r8]) (st' := []) ((hp 83).trans rfl) rfl rfl (Nat.le_of_ble_eq_true rfl) (Nat.le_of_ble_eq_true rfl) (am_R.post H (fun v g9 hq => ?_))
        obtain ⟨r10, rfl, hw, H⟩ := hq
        change am_R _ _ _ _ _ [.inl r10] _ _
        refine r_if ((hp 86).trans rfl) (fun c19 => ?_) (fun c19 => ?_)
        · have H := H.1 c19
          refine am_R.next ((hp 127).trans rfl) rfl ?_
          refine am_R.next ((hp 128).trans rfl) rfl ?_
          refine r_getI ((hp 129).trans rfl) (hw.o (i := 109) (by decide) rfl) ?_
          refine r_cv (bs := [.inl (g9.2.2.2 109 6)]) (st' := []) ((hp 132).trans rfl) (hw.o (i := 109) (by decide) rfl) rfl rfl (Nat.le_of_ble_eq_true rfl) (Nat.le_of_ble_eq_true rfl) (am_R.post H (fun v g11 hq => ?_))
          obtain ⟨r12, rfl, hw, H⟩ := hq
          change am_R _ _ _ _ _ [.inl r12] _ _
          refine r_cs (as := [.inl r12]) (st' := []) ((hp 135).trans rfl) rfl rfl (Nat.le_of_ble_eq_true rfl) (Nat.le_of_ble_eq_true rfl) (am_R.post H (fun v g13 hq => ?_))
          obtain ⟨r14, rfl, hw, H⟩ := hq
          change am_R _ _ _ _ _ [.inl r14] _ _
          refine r_if ((hp 138).trans rfl) (fun c18 => ?_) (fun c18 => ?_)
          · have H := H.1 c18
            refine am_R.next ((hp 236).trans rfl) rfl ?_
            refine am_R.next ((hp 237).trans rfl) rfl ?_
            refine r_getI ((hp 238).trans rfl) (hw.o (i := 109) (by decide) rfl) ?_
            refine am_R.next ((hp 241).trans rfl) rfl ?_
            refine am_R.next ((hp 242).trans rfl) rfl ?_
            obtain ⟨h15, eh15⟩ : ∃ z : am_H, z = am_put g13 109 7 (am_w ((g13.2.2.2 109 7) + 1)) := ⟨_, rfl⟩
            have H := H h15 eh15
            refine r_putI ((hp 243).trans rfl) (hw.o (i := 109) (by decide) rfl) ?_
            have hw : wf h15 := by rw [eh15]; exact hw.put np_109_7
            change am_R _ _ _ _ _ _ (am_put g13 109 7 (am_w ((g13.2.2.2 109 7) + 1))) _
            rw [← eh15]
            refine am_R.next ((hp 246).trans rfl) rfl ?_
            refine am_R.next ((hp 247).trans rfl) rfl ?_
            obtain ⟨h16, eh16⟩ : ∃ z : am_H, z = am_put h15 109 9 27 := ⟨_, rfl⟩
            have H := H h16 eh16
            refine r_putI ((hp 249).trans rfl) (hw.o (i := 109) (by decide) rfl) ?_
            have hw : wf h16 := by rw [eh16]; exact hw.put np_109_9
            change am_R _ _ _ _ _ _ (am_put h15 109 9 27) _
            rw [← eh16]
            refine am_R.next ((hp 252).trans rfl) rfl ?_
            refine am_R.next (lv' := [some (.inr (.inr ((109 : Nat) : Int))), some (.inl 0)]) ((hp 253).trans rfl) rfl ?_
            exact H
          · have H := H.2 c18
            refine am_R.next ((hp 141).trans rfl) rfl ?_
            refine am_R.next ((hp 142).trans rfl) rfl ?_
            obtain ⟨h17, eh17⟩ : ∃ z : am_H, z = am_put g13 109 10 0 := ⟨_, rfl⟩
            have H := H h17 eh17
            refine r_putI ((hp 143).trans rfl) (hw.o (i := 109) (by decide) rfl) ?_
            have hw : wf h17 := by rw [eh17]; exact hw.put np_109_10
            change am_R _ _ _ _ _ _ (am_put g13 109 10 0) _
            rw [← eh17]
            exact H
        · have H := H.2 c19
          exact H
      · have H := H.2 c21
        refine am_R.next ((hp 66).trans rfl) rfl ?_
        refine am_R.next ((hp 67).trans rfl) rfl ?_
        obtain ⟨h20, eh20⟩ : ∃ z : am_H, z = am_put h6 109 9 26 := ⟨_, rfl⟩
        have H := H h20 eh20
        refine r_putI ((hp 69).trans rfl) (hw.o (i := 109) (by decide) rfl) ?_
        have hw : wf h20 := by rw [eh20]; exact hw.put np_109_9
        change am_R _ _ _ _ _ _ (am_put h6 109 9 26) _
        rw [← eh20]
        refine am_R.next ((hp 72).trans rfl) rfl ?_
        exact am_R.ret ((hp 294).trans rfl) rfl H
    · have H := H.2 (Decidable.not_not.mp c23)
      refine am_R.next ((hp 34).trans rfl) rfl ?_
      refine am_R.next ((hp 35).trans rfl) rfl ?_
      refine r_getI ((hp 36).trans rfl) (hw.o (i := 109) (by decide) rfl) ?_
      refine am_R.next ((hp 39).trans rfl) rfl ?_
      refine am_R.next ((hp 40).trans rfl) rfl ?_
      obtain ⟨h22, eh22⟩ : ∃ z : am_H, z = am_put g4 109 6 (am_w ((g4.2.2.2 109 6) + 1)) := ⟨_, rfl⟩
      have H := H h22 eh22
      refine r_putI ((hp 41).trans rfl) (hw.o (i := 109) (by decide) rfl) ?_
      have hw : wf h22 := by rw [eh22]; exact hw.put np_109_6
      change am_R _ _ _ _ _ _ (am_put g4 109 6 (am_w ((g4.2.2.2 109 6) + 1))) _
      rw [← eh22]
      refine am_R.next ((hp 44).trans rfl) rfl ?_
      exact H
theorem w_M_next_89 {scr : Nat × (Nat → Int)} {d : Nat} {h : am_H} {Q : Option am_V → am_H → Prop} (hs : am_sc scr) (hw : wf h) (H : am_R (am_prog scr) d f_M_see 0 [some (.inr (.inr ((109 : Nat) : Int))), some (.inl (h.2.2.2 109 7))] [] h (fun v g1 => ∃ r2 : Int, v = some (.inl r2) ∧ wf g1 ∧ (am_R (am_prog scr) d f_M_isSmall 0 [some (.inl r2)] [] g1 (fun v g3 => ∃ r4 : Int, v = some (.inl r4) ∧ wf g3 ∧ ((r4 = 0 → (am_R (am_prog scr) d f_M_keyAt 0 [some (.inr (.inr ((109 : Nat) : Int))), none, none, none] [] g3 (fun v g5 => ∃ r6 : Int, v = some (.inl r6) ∧ wf g5 ∧ (∀ h7 : am_H, h7 = am_put g5 109 9 r6 → (Q none h7))))) ∧ (¬ (r4 = 0) → (∀ h8 : am_H, h8 = am_put g3 109 7 (am_w ((g3.2.2.2 109 7) + 1)) → (am_R (am_prog scr) (d + 1) f_M_next 89 [some (.inr (.inr ((109 : Nat) : Int))), none] [] h8 Q)))))))) : am_R (am_prog scr) (d + 1) f_M_next 89 [some (.inr (.inr ((109 : Nat) : Int))), none] [] h Q := by
  have hp : ∀ k, (am_prog scr).1 f_M_next k = c_M_next k := fun _ => rfl
  refine am_R.next ((hp 89).trans rfl) rfl ?_
  refine am_R.next ((hp 90).trans rfl) rfl ?_
  refine r_getI ((hp 91).trans rfl) (hw.o (i := 109) (by decide) rfl) ?_
  refine r_cv (bs := [.inl (h.2.2.2 109 7)]) (st' := []) ((hp 94).trans rfl) (hw.o (i := 109) (by decide) rfl) rfl rfl (Nat.le_of_ble_eq_true rfl) (Nat.le_of_ble_eq_true rfl) (am_R.post H (fun v g1 hq => ?_))
  obtain ⟨r2, rfl, hw, H⟩ := hq
  change am_R _ _ _ _ _ [.inl r2] _ _
  refine r_cs (as := [.inl r2]) (st' := []) ((hp 97).trans rfl) rfl rfl (Nat.le_of_ble_eq_true rfl) (Nat.le_of_ble_eq_true rfl) (am_R.post H (fun v g3 hq => ?_))
  obtain ⟨r4, rfl, hw, H⟩ := hq
  change am_R _ _ _ _ _ [.inl r4] _ _
  refine r_if ((hp 100).trans rfl) (fun c9 => ?_) (fun c9 => ?_)
  · have H := H.1 c9
    refine am_R.next ((hp 116).trans rfl) rfl ?_
    refine am_R.next ((hp 117).trans rfl) rfl ?_
    refine r_cv (bs := []) (st' := [.inr (.inr ((109 : Nat) : Int))]) ((hp 118).trans rfl) (hw.o (i := 109) (by decide) rfl) rfl rfl (Nat.le_of_ble_eq_true rfl) (Nat.le_of_ble_eq_true rfl) (am_R.post H (fun v g5 hq => ?_))
    obtain ⟨r6, rfl, hw, H⟩ := hq
    change am_R _ _ _ _ _ [.inl r6, .inr (.inr ((109 : Nat) : Int))] _ _
    obtain ⟨h7, eh7⟩ : ∃ z : am_H, z = am_put g5 109 9 r6 := ⟨_, rfl⟩
    have H := H h7 eh7
    refine r_putI ((hp 121).trans rfl) (hw.o (i := 109) (by decide) rfl) ?_
    have hw : wf h7 := by rw [eh7]; exact hw.put np_109_9
    change am_R _ _ _ _ _ _ (am_put g5 109 9 r6) _
    rw [← eh7]
    refine am_R.next ((hp 124).trans rfl) rfl ?_
    exact am_R.ret ((hp 294).trans rfl) rfl H
  · have H := H.2 c9
    refine am_R.next ((hp 103).trans rfl) rfl ?_
    refine am_R.next ((hp 104).trans rfl) rfl ?_
    refine r_getI ((hp 105).trans rfl) (hw.o (i := 109) (by decide) rfl) ?_
    refine am_R.next ((hp 108).trans rfl) rfl ?_
    refine am_R.next ((hp 109).trans rfl) rfl ?_
    obtain ⟨h8, eh8⟩ : ∃ z : am_H, z = am_put g3 109 7 (am_w ((g3.2.2.2 109 7) + 1)) := ⟨_, rfl⟩
    have H := H h8 eh8
    refine r_putI ((hp 110).trans rfl) (hw.o (i := 109) (by decide) rfl) ?_
    have hw : wf h8 := by rw [eh8]; exact hw.put np_109_7
    change am_R _ _ _ _ _ _ (am_put g3 109 7 (am_w ((g3.2.2.2 109 7) + 1))) _
    rw [← eh8]
    refine am_R.next ((hp 113).trans rfl) rfl ?_
    exact H
theorem w_M_next_146 {scr : Nat × (Nat → Int)} {d : Nat} {h : am_H} {Q : Option am_V → am_H → Prop} (hs : am_sc scr) (hw : wf h) (H : am_R (am_prog scr) d f_M_see 0 [some (.inr (.inr ((109 : Nat) : Int))), some (.inl (h.2.2.2 109 7))] [] h (fun v g1 => ∃ r2 : Int, v = some (.inl r2) ∧ wf g1 ∧ (am_R (am_prog scr) d f_M_isDigit 0 [some (.inl r2)] [] g1 (fun v g3 => ∃ r4 : Int, v = some (.inl r4) ∧ wf g3 ∧ ((r4 = 0 → (((am_w ((g3.2.2.2 109 7) - (g3.2.2.2 109 6))) ≤ 3 → (∀ h5 : am_H, h5 = am_put g3 109 9 25 → (Q none h5))) ∧ (¬ ((am_w ((g3.2.2.2 109 7) - (g3.2.2.2 109 6))) ≤ 3) → (∀ h6 : am_H, h6 = am_put g3 109 9 27 → (Q none h6))))) ∧ (¬ (r4 = 0) → ((¬ ((am_w ((g3.2.2.2 109 7) - (g3.2.2.2 109 6))) < 3) → (∀ h8 : am_H, h8 = am_put g3 109 7 (am_w ((g3.2.2.2 109 7) + 1)) → (am_R (am_prog scr) (d + 1) f_M_next 146 [some (.inr (.inr ((109 : Nat) : Int))), none] [] h8 Q))) ∧ ((am_w ((g3.2.2.2 109 7) - (g3.2.2.2 109 6))) < 3 → (am_R (am_prog scr) d f_M_see 0 [some (.inr (.inr ((109 : Nat) : Int))), some (.inl (g3.2.2.2 109 7))] [] g3 (fun v g9 => ∃ r10 : Int, v = some (.inl r10) ∧ wf g9 ∧ (∀ h11 : am_H, h11 = am_put g9 109 10 (am_w ((am_w ((am_w (10 * (g3.2.2.2 109 10))) + r10)) - 48)) → (∀ h12 : am_H, h12 = am_put h11 109 7 (am_w ((h11.2.2.2 109 7) + 1)) → (am_R (am_prog scr) (d + 1) f_M_next 146 [some (.inr (.inr ((109 : Nat) : Int))), none] [] h12 Q))))))))))))) : am_R (am_prog scr) (d + 1) f_M_next 146 [some (.inr (.inr ((109 : Nat) : Int))), none] [] h Q := by
  have hp : ∀ k, (am_prog scr).1 f_M_next k = c_M_next k := fun _ => rfl
  refine am_R.next ((hp 146).trans rfl) rfl ?_
  refine am_R.next ((hp 147).trans rfl) rfl ?_
  refine r_getI ((hp 148).trans rfl) (hw.o (i := 109) (by decide) rfl) ?_
  refine r_cv (bs := [.inl (h.2.2.2 109 7)]) (st' := []) ((hp 151).trans rfl) (hw.o (i := 109) (by decide) rfl) rfl rfl (Nat.le_of_ble_eq_true rfl) (Nat.le_of_ble_eq_true rfl) (am_R.post H (fun v g1 hq => ?_))
  obtain ⟨r2, rfl, hw, H⟩ := hq
  change am_R _ _ _ _ _ [.inl r2] _ _
  refine r_cs (as := [.inl r2]) (st' := []) ((hp 154).trans rfl) rfl rfl (Nat.le_of_ble_eq_true rfl) (Nat.le_of_ble_eq_true rfl) (am_R.post H (fun v g3 hq => ?_))
  obtain ⟨r4, rfl, hw, H⟩ := hq
  change am_R _ _ _ _ _ [.inl r4] _ _
  refine r_if ((hp 157).trans rfl) (fun c14 => ?_) (fun c14 => ?_)
  · have H := H.1 c14
    refine am_R.next ((hp 209).trans rfl) rfl ?_
    refine am_R.next ((hp 210).trans rfl) rfl ?_
    refine r_getI ((hp 211).trans rfl) (hw.o (i := 109) (by decide) rfl) ?_
    refine am_R.next ((hp 214).trans rfl) rfl ?_
    refine r_getI ((hp 215).trans rfl) (hw.o (i := 109) (by decide) rfl) ?_
    refine am_R.next ((hp 218).trans rfl) rfl ?_
    refine am_R.next ((hp 219).trans rfl) rfl ?_
    refine r_ic ((hp 220).trans rfl) (fun c7 => ?_) (fun c7 => ?_)
    · have H := H.1 c7
      refine am_R.next ((hp 228).trans rfl) rfl ?_
      obtain ⟨h5, eh5⟩ : ∃ z : am_H, z = am_put g3 109 9 25 := ⟨_, rfl⟩
      have H := H h5 eh5
      refine r_putI ((hp 230).trans rfl) (hw.o (i := 109) (by decide) rfl) ?_
      have hw : wf h5 := by rw [eh5]; exact hw.put np_109_9
      change am_R _ _ _ _ _ _ (am_put g3 109 9 25) _
      rw [← eh5]
      refine am_R.next ((hp 233).trans rfl) rfl ?_
      exact am_R.ret ((hp 294).trans rfl) rfl H
    · have H := H.2 c7
      refine am_R.next ((hp 223).trans rfl) rfl ?_
      refine am_R.next ((hp 225).trans rfl) rfl ?_
      obtain ⟨h6, eh6⟩ : ∃ z : am_H, z = am_put g3 109 9 27 := ⟨_, rfl⟩
      have H := H h6 eh6
      refine r_putI ((hp 230).trans rfl) (hw.o (i := 109) (by decide) rfl) ?_
      have hw : wf h6 := by rw [eh6]; exact hw.put np_109_9
      change am_R _ _ _ _ _ _ (am_put g3 109 9 27) _
      rw [← eh6]
      refine am_R.next ((hp 233).trans rfl) rfl ?_
      exact am_R.ret ((hp 294).trans rfl) rfl H
  · have H := H.2 c14
    refine am_R.next ((hp 160).trans rfl) rfl ?_
    refine r_getI ((hp 161).trans rfl) (hw.o (i := 109) (by decide) rfl) ?_
    refine am_R.next ((hp 164).trans rfl) rfl ?_
    refine r_getI ((hp 165).trans rfl) (hw.o (i := 109) (by decide) rfl) ?_
    refine am_R.next ((hp 168).trans rfl) rfl ?_
    refine am_R.next ((hp 169).trans rfl) rfl ?_
    refine r_ic ((hp 170).trans rfl) (fun c13 => ?_) (fun c13 => ?_)
    · have H := H.1 c13
      refine am_R.next ((hp 196).trans rfl) rfl ?_
      refine am_R.next ((hp 197).trans rfl) rfl ?_
      refine r_getI ((hp 198).trans rfl) (hw.o (i := 109) (by decide) rfl) ?_
      refine am_R.next ((hp 201).trans rfl) rfl ?_
      refine am_R.next ((hp 202).trans rfl) rfl ?_
      obtain ⟨h8, eh8⟩ : ∃ z : am_H, z = am_put g3 109 7 (am_w ((g3.2.2.2 109 7) + 1)) := ⟨_, rfl⟩
      have H := H h8 eh8
      refine r_putI ((hp 203).trans rfl) (hw.o (i := 109) (by decide) rfl) ?_
      have hw : wf h8 := by rw [eh8]; exact hw.put np_109_7
      change am_R _ _ _ _ _ _ (am_put g3 109 7 (am_w ((g3.2.2.2 109 7) + 1))) _
      rw [← eh8]
      refine am_R.next ((hp 206).trans rfl) rfl ?_
      exact H
    · have H := H.2 (Decidable.not_not.mp c13)
      refine am_R.next ((hp 173).trans rfl) rfl ?_
      refine am_R.next ((hp 174).trans rfl) rfl ?_
      refine am_R.next ((hp 176).trans rfl) rfl ?_
      refine r_getI ((hp 177).trans rfl) (hw.o (i := 109) (by decide) rfl) ?_
      refine am_R.next ((hp 180).trans rfl) rfl ?_
      refine am_R.next ((hp 181).trans rfl) rfl ?_
      refine am_R.next ((hp 182).trans rfl) rfl ?_
      refine r_getI ((hp 183).trans rfl) (hw.o (i := 109) (by decide) rfl) ?_
      refine r_cv (bs := [.inl (g3.2.2.2 109 7)]) (st' := [.inl (am_w (10 * (g3.2.2.2 109 10))), .inr (.inr ((109 : Nat) : Int))]) ((hp 186).trans rfl) (hw.o (i := 109) (by decide) rfl) rfl rfl (Nat.le_of_ble_eq_true rfl) (Nat.le_of_ble_eq_true rfl) (am_R.post H (fun v g9 hq => ?_))
      obtain ⟨r10, rfl, hw, H⟩ := hq
      change am_R _ _ _ _ _ [.inl r10, .inl (am_w (10 * (g3.2.2.2 109 10))), .inr (.inr ((109 : Nat) : Int))] _ _
      refine am_R.next ((hp 189).trans rfl) rfl ?_
      refine am_R.next ((hp 190).trans rfl) rfl ?_
      refine am_R.next ((hp 192).trans rfl) rfl ?_
      obtain ⟨h11, eh11⟩ : ∃ z : am_H, z = am_put g9 109 10 (am_w ((am_w ((am_w (10 * (g3.2.2.2 109 10))) + r10)) - 48)) := ⟨_, rfl⟩
      have H := H h11 eh11
      refine r_putI ((hp 193).trans rfl) (hw.o (i := 109) (by decide) rfl) ?_
      have hw : wf h11 := by rw [eh11]; exact hw.put np_109_10
      change am_R _ _ _ _ _ _ (am_put g9 109 10 (am_w ((am_w ((am_w (10 * (g3.2.2.2 109 10))) + r10)) - 48))) _
      rw [← eh11]
      refine am_R.next ((hp 196).trans rfl) rfl ?_
      refine am_R.next ((hp 197).trans rfl) rfl ?_
      refine r_getI ((hp 198).trans rfl) (hw.o (i := 109) (by decide) rfl) ?_
      refine am_R.next ((hp 201).trans rfl) rfl ?_
      refine am_R.next ((hp 202).trans rfl) rfl ?_
      obtain ⟨h12, eh12⟩ : ∃ z : am_H, z = am_put h11 109 7 (am_w ((h11.2.2.2 109 7) + 1)) := ⟨_, rfl⟩
      have H := H h12 eh12
      refine r_putI ((hp 203).trans rfl) (hw.o (i := 109) (by decide) rfl) ?_
      have hw : wf h12 := by rw [eh12]; exact hw.put np_109_7
      change am_R _ _ _ _ _ _ (am_put h11 109 7 (am_w ((h11.2.2.2 109 7) + 1))) _
      rw [← eh12]
      refine am_R.next ((hp 206).trans rfl) rfl ?_
      exact H
theorem w_M_next_254 {scr : Nat × (Nat → Int)} {d : Nat} {h : am_H} {Q : Option am_V → am_H → Prop} {x1 : Int} (hs : am_sc scr) (hw : wf h) (H : am_R (am_prog scr) d f_jS_length 0 [some (.inr (.inr (-40)))] [] h (fun v g1 => ∃ r2 : Int, v = some (.inl r2) ∧ wf g1 ∧ ((¬ (x1 < r2) → (Q none g1)) ∧ (x1 < r2 → (am_R (am_prog scr) d f_M_see 0 [some (.inr (.inr ((109 : Nat) : Int))), some (.inl (g1.2.2.2 109 6))] [] g1 (fun v g3 => ∃ r4 : Int, v = some (.inl r4) ∧ wf g3 ∧ (am_R (am_prog scr) d f_jS_charAt 0 [some (.inr (.inr (-40))), some (.inl x1)] [] g3 (fun v g5 => ∃ r6 : Int, v = some (.inl r6) ∧ wf g5 ∧ ((¬ (r4 = r6) → (∀ y7 : Int, y7 = am_w (x1 + 1) → (am_R (am_prog scr) (d + 1) f_M_next 254 [some (.inr (.inr ((109 : Nat) : Int))), some (.inl y7)] [] g5 Q))) ∧ (r4 = r6 → (∀ h8 : am_H, h8 = am_put g5 109 9 (am_w (30 + x1)) → (∀ y9 : Int, y9 = am_w (x1 + 1) → (am_R (am_prog scr) (d + 1) f_M_next 254 [some (.inr (.inr ((109 : Nat) : Int))), some (.inl y9)] [] h8 Q))))))))))))) : am_R (am_prog scr) (d + 1) f_M_next 254 [some (.inr (.inr ((109 : Nat) : Int))), some (.inl x1)] [] h Q := by
  have hp : ∀ k, (am_prog scr).1 f_M_next k = c_M_next k := fun _ => rfl
  refine am_R.next ((hp 254).trans rfl) rfl ?_
  refine am_R.next ((hp 255).trans rfl) rfl ?_
  refine r_ct (bs := []) (st' := [.inl x1]) ((hp 257).trans rfl) (by decide) rfl rfl (Nat.le_of_ble_eq_true rfl) (Nat.le_of_ble_eq_true rfl) (am_R.post H (fun v g1 hq => ?_))
  obtain ⟨r2, rfl, hw, H⟩ := hq
  change am_R _ _ _ _ _ [.inl r2, .inl x1] _ _
  refine r_ic ((hp 260).trans rfl) (fun c11 => ?_) (fun c11 => ?_)
  · have H := H.1 c11
    exact am_R.ret ((hp 294).trans rfl) rfl H
  · have H := H.2 (Decidable.not_not.mp c11)
    refine am_R.next ((hp 263).trans rfl) rfl ?_
    refine am_R.next ((hp 264).trans rfl) rfl ?_
    refine r_getI ((hp 265).trans rfl) (hw.o (i := 109) (by decide) rfl) ?_
    refine r_cv (bs := [.inl (g1.2.2.2 109 6)]) (st' := []) ((hp 268).trans rfl) (hw.o (i := 109) (by decide) rfl) rfl rfl (Nat.le_of_ble_eq_true rfl) (Nat.le_of_ble_eq_true rfl) (am_R.post H (fun v g3 hq => ?_))
    obtain ⟨r4, rfl, hw, H⟩ := hq
    change am_R _ _ _ _ _ [.inl r4] _ _
    refine am_R.next ((hp 271).trans rfl) rfl ?_
    refine am_R.next ((hp 273).trans rfl) rfl ?_
    refine r_ct (bs := [.inl x1]) (st' := [.inl r4]) ((hp 274).trans rfl) (by decide) rfl rfl (Nat.le_of_ble_eq_true rfl) (Nat.le_of_ble_eq_true rfl) (am_R.post H (fun v g5 hq => ?_))
    obtain ⟨r6, rfl, hw, H⟩ := hq
    change am_R _ _ _ _ _ [.inl r6, .inl r4] _ _
    refine r_ic ((hp 277).trans rfl) (fun c10 => ?_) (fun c10 => ?_)
    · have H := H.1 c10
      obtain ⟨y7, ey7⟩ : ∃ z : Int, z = am_w (x1 + 1) := ⟨_, rfl⟩
      have H := H y7 ey7
      refine am_R.next (lv' := [some (.inr (.inr ((109 : Nat) : Int))), some (.inl y7)]) (st' := []) (h' := g5) (pc' := 291) ((hp 288).trans rfl) (by rw [ey7]; rfl) ?_
      refine am_R.next ((hp 291).trans rfl) rfl ?_
      exact H
    · have H := H.2 (Decidable.not_not.mp c10)
      refine am_R.next ((hp 280).trans rfl) rfl ?_
      refine am_R.next ((hp 281).trans rfl) rfl ?_
      refine am_R.next ((hp 283).trans rfl) rfl ?_
      refine am_R.next ((hp 284).trans rfl) rfl ?_
      obtain ⟨h8, eh8⟩ : ∃ z : am_H, z = am_put g5 109 9 (am_w (30 + x1)) := ⟨_, rfl⟩
      have H := H h8 eh8
      refine r_putI ((hp 285).trans rfl) (hw.o (i := 109) (by decide) rfl) ?_
      have hw : wf h8 := by rw [eh8]; exact hw.put np_109_9
      change am_R _ _ _ _ _ _ (am_put g5 109 9 (am_w (30 + x1))) _
      rw [← eh8]
      obtain ⟨y9, ey9⟩ : ∃ z : Int, z = am_w (x1 + 1) := ⟨_, rfl⟩
      have H := H y9 ey9
      refine am_R.next (lv' := [some (.inr (.inr ((109 : Nat) : Int))), some (.inl y9)]) (st' := []) (h' := h8) (pc' := 291) ((hp 288).trans rfl) (by rw [ey9]; rfl) ?_
      refine am_R.next ((hp 291).trans rfl) rfl ?_
      exact H
theorem w_M_fails_0 {scr : Nat × (Nat → Int)} {d : Nat} {h : am_H} {Q : Option am_V → am_H → Prop} {x1 : Int} (hs : am_sc scr) (hw : wf h) (H : ((h.2.2.2 109 11) = 0 → ((¬ ((h.2.2.2 109 9) = 27) → (∀ h1 : am_H, h1 = am_put h 109 11 x1 → (∀ h2 : am_H, h2 = am_put h1 109 12 (h1.2.2.2 109 6) → (Q none h2)))) ∧ ((h.2.2.2 109 9) = 27 → (∀ h3 : am_H, h3 = am_put h 109 11 1 → (∀ h4 : am_H, h4 = am_put h3 109 12 (h3.2.2.2 109 6) → (Q none h4)))))) ∧ (¬ ((h.2.2.2 109 11) = 0) → (Q none h))) : am_R (am_prog scr) d f_M_fails 0 [some (.inr (.inr ((109 : Nat) : Int))), some (.inl x1)] [] h Q := by
  have hp : ∀ k, (am_prog scr).1 f_M_fails k = c_M_fails k := fun _ => rfl
  refine am_R.next ((hp 0).trans rfl) rfl ?_
  refine r_getI ((hp 1).trans rfl) (hw.o (i := 109) (by decide) rfl) ?_
  refine r_if ((hp 4).trans rfl) (fun c6 => ?_) (fun c6 => ?_)
  · have H := H.1 c6
    refine am_R.next ((hp 8).trans rfl) rfl ?_
    refine am_R.next ((hp 9).trans rfl) rfl ?_
    refine r_getI ((hp 10).trans rfl) (hw.o (i := 109) (by decide) rfl) ?_
    refine am_R.next ((hp 13).trans rfl) rfl ?_
    refine r_ic ((hp 15).trans rfl) (fun c5 => ?_) (fun c5 => ?_)
    · have H := H.1 c5
      refine am_R.next ((hp 22).trans rfl) rfl ?_
      obtain ⟨h1, eh1⟩ : ∃ z : am_H, z = am_put h 109 11 x1 := ⟨_, rfl⟩
      have H := H h1 eh1
      refine r_putI ((hp 23).trans rfl) (hw.o (i := 109) (by decide) rfl) ?_
      have hw : wf h1 := by rw [eh1]; exact hw.put np_109_11
      change am_R _ _ _ _ _ _ (am_put h 109 11 x1) _
      rw [← eh1]
      refine am_R.next ((hp 26).trans rfl) rfl ?_
      refine am_R.next ((hp 27).trans rfl) rfl ?_
      refine r_getI ((hp 28).trans rfl) (hw.o (i := 109) (by decide) rfl) ?_
      obtain ⟨h2, eh2⟩ : ∃ z : am_H, z = am_put h1 109 12 (h1.2.2.2 109 6) := ⟨_, rfl⟩
      have H := H h2 eh2
      refine r_putI ((hp 31).trans rfl) (hw.o (i := 109) (by decide) rfl) ?_
      have hw : wf h2 := by rw [eh2]; exact hw.put np_109_12
      change am_R _ _ _ _ _ _ (am_put h1 109 12 (h1.2.2.2 109 6)) _
      rw [← eh2]
      exact am_R.ret ((hp 34).trans rfl) rfl H
    · have H := H.2 (Decidable.not_not.mp c5)
      refine am_R.next ((hp 18).trans rfl) rfl ?_
      refine am_R.next ((hp 19).trans rfl) rfl ?_
      obtain ⟨h3, eh3⟩ : ∃ z : am_H, z = am_put h 109 11 1 := ⟨_, rfl⟩
      have H := H h3 eh3
      refine r_putI ((hp 23).trans rfl) (hw.o (i := 109) (by decide) rfl) ?_
      have hw : wf h3 := by rw [eh3]; exact hw.put np_109_11
      change am_R _ _ _ _ _ _ (am_put h 109 11 1) _
      rw [← eh3]
      refine am_R.next ((hp 26).trans rfl) rfl ?_
      refine am_R.next ((hp 27).trans rfl) rfl ?_
      refine r_getI ((hp 28).trans rfl) (hw.o (i := 109) (by decide) rfl) ?_
      obtain ⟨h4, eh4⟩ : ∃ z : am_H, z = am_put h3 109 12 (h3.2.2.2 109 6) := ⟨_, rfl⟩
      have H := H h4 eh4
      refine r_putI ((hp 31).trans rfl) (hw.o (i := 109) (by decide) rfl) ?_
      have hw : wf h4 := by rw [eh4]; exact hw.put np_109_12
      change am_R _ _ _ _ _ _ (am_put h3 109 12 (h3.2.2.2 109 6)) _
      rw [← eh4]
      exact am_R.ret ((hp 34).trans rfl) rfl H
  · have H := H.2 c6
    exact am_R.ret ((hp 7).trans rfl) rfl H
theorem w_M_is_0 {scr : Nat × (Nat → Int)} {d : Nat} {h : am_H} {Q : Option am_V → am_H → Prop} {x1 : Int} (hs : am_sc scr) (hw : wf h) (H : (¬ ((h.2.2.2 109 11) = 0) → (Q (some (.inl 0)) h)) ∧ ((h.2.2.2 109 11) = 0 → ((¬ ((h.2.2.2 109 9) = x1) → (Q (some (.inl 0)) h)) ∧ ((h.2.2.2 109 9) = x1 → (Q (some (.inl 1)) h))))) : am_R (am_prog scr) d f_M_is 0 [some (.inr (.inr ((109 : Nat) : Int))), some (.inl x1)] [] h Q := by
  have hp : ∀ k, (am_prog scr).1 f_M_is k = c_M_is k := fun _ => rfl
  refine am_R.next ((hp 0).trans rfl) rfl ?_
  refine r_getI ((hp 1).trans rfl) (hw.o (i := 109) (by decide) rfl) ?_
  refine r_if ((hp 4).trans rfl) (fun c2 => ?_) (fun c2 => ?_)
  · have H := H.1 c2
    refine am_R.next ((hp 19).trans rfl) rfl ?_
    exact r_zret ((hp 20).trans rfl) (Or.inl rfl) H
  · have H := H.2 (Decidable.not_not.mp c2)
    refine am_R.next ((hp 7).trans rfl) rfl ?_
    refine r_getI ((hp 8).trans rfl) (hw.o (i := 109) (by decide) rfl) ?_
    refine am_R.next ((hp 11).trans rfl) rfl ?_
    refine r_ic ((hp 12).trans rfl) (fun c1 => ?_) (fun c1 => ?_)
    · have H := H.1 c1
      refine am_R.next ((hp 19).trans rfl) rfl ?_
      exact r_zret ((hp 20).trans rfl) (Or.inl rfl) H
    · have H := H.2 (Decidable.not_not.mp c1)
      refine am_R.next ((hp 15).trans rfl) rfl ?_
      refine am_R.next ((hp 16).trans rfl) rfl ?_
      exact r_zret ((hp 20).trans rfl) (Or.inr rfl) H
theorem w_M_eats_0 {scr : Nat × (Nat → Int)} {d : Nat} {h : am_H} {Q : Option am_V → am_H → Prop} {x1 : Int} (hs : am_sc scr) (hw : wf h) (H : am_R (am_prog scr) d f_M_is 0 [some (.inr (.inr ((109 : Nat) : Int))), some (.inl x1)] [] h (fun v g1 => ∃ r2 : Int, v = some (.inl r2) ∧ wf g1 ∧ ((¬ (r2 = 0) → (am_R (am_prog scr) d f_M_next 0 [some (.inr (.inr ((109 : Nat) : Int))), none] [] g1 (fun v g3 => v = none ∧ wf g3 ∧ (Q (some (.inl 1)) g3)))) ∧ (r2 = 0 → (Q (some (.inl 0)) g1))))) : am_R (am_prog scr) (d + 1) f_M_eats 0 [some (.inr (.inr ((109 : Nat) : Int))), some (.inl x1)] [] h Q := by
  have hp : ∀ k, (am_prog scr).1 f_M_eats k = c_M_eats k := fun _ => rfl
  refine am_R.next ((hp 0).trans rfl) rfl ?_
  refine am_R.next ((hp 1).trans rfl) rfl ?_
  refine r_cv (bs := [.inl x1]) (st' := []) ((hp 2).trans rfl) (hw.o (i := 109) (by decide) rfl) rfl rfl (Nat.le_of_ble_eq_true rfl) (Nat.le_of_ble_eq_true rfl) (am_R.post H (fun v g1 hq => ?_))
  obtain ⟨r2, rfl, hw, H⟩ := hq
  change am_R _ _ _ _ _ [.inl r2] _ _
  refine r_if ((hp 5).trans rfl) (fun c4 => ?_) (fun c4 => ?_)
  · have H := H.1 c4
    refine am_R.next ((hp 10).trans rfl) rfl ?_
    refine r_cv (bs := []) (st' := []) ((hp 11).trans rfl) (hw.o (i := 109) (by decide) rfl) rfl rfl (Nat.le_of_ble_eq_true rfl) (Nat.le_of_ble_eq_true rfl) (am_R.post H (fun v g3 hq => ?_))
    obtain ⟨rfl, hw, H⟩ := hq
    change am_R _ _ _ _ _ [] _ _
    refine am_R.next ((hp 14).trans rfl) rfl ?_
    exact r_zret ((hp 15).trans rfl) (Or.inr rfl) H
  · have H := H.2 (Decidable.not_not.mp c4)
    refine am_R.next ((hp 8).trans rfl) rfl ?_
    exact r_zret ((hp 9).trans rfl) (Or.inl rfl) H
theorem w_M_takes_0 {scr : Nat × (Nat → Int)} {d : Nat} {h : am_H} {Q : Option am_V → am_H → Prop} {x1 x2 : Int} (hs : am_sc scr) (hw : wf h) (H : am_R (am_prog scr) d f_M_is 0 [some (.inr (.inr ((109 : Nat) : Int))), some (.inl 25)] [] h (fun v g1 => ∃ r2 : Int, v = some (.inl r2) ∧ wf g1 ∧ ((¬ (r2 = 0) → (am_R (am_prog scr) d f_M_within 0 [some (.inr (.inl (g1.2.2.2 109 10))), none, some (.inr (.inl x1)), none, some (.inr (.inl x2)), none] [] g1 (fun v g3 => ∃ r4 : Int, v = some (.inl r4) ∧ wf g3 ∧ ((¬ (r4 = 0) → (am_R (am_prog scr) (d + 1) f_M_takes 37 [some (.inr (.inr ((109 : Nat) : Int))), some (.inl x1), some (.inl x2), none] [] g3 Q)) ∧ (r4 = 0 → (am_R (am_prog scr) d f_M_fails 0 [some (.inr (.inr ((109 : Nat) : Int))), some (.inl 3)] [] g3 (fun v g5 => v = none ∧ wf g5 ∧ (am_R (am_prog scr) (d + 1) f_M_takes 37 [some (.inr (.inr ((109 : Nat) : Int))), some (.inl x1), some (.inl x2), none] [] g5 Q)))))))) ∧ (r2 = 0 → (am_R (am_prog scr) d f_M_fails 0 [some (.inr (.inr ((109 : Nat) : Int))), some (.inl 2)] [] g1 (fun v g7 => v = none ∧ wf g7 ∧ (am_R (am_prog scr) (d + 1) f_M_takes 37 [some (.inr (.inr ((109 : Nat) : Int))), some (.inl x1), some (.inl x2), none] [] g7 Q))))))) : am_R (am_prog scr) (d + 1) f_M_takes 0 [some (.inr (.inr ((109 : Nat) : Int))), some (.inl x1), some (.inl x2), none] [] h Q := by
  have hp : ∀ k, (am_prog scr).1 f_M_takes k = c_M_takes k := fun _ => rfl
  refine am_R.next ((hp 0).trans rfl) rfl ?_
  refine am_R.next ((hp 1).trans rfl) rfl ?_
  refine r_cv (bs := [.inl 25]) (st' := []) ((hp 3).trans rfl) (hw.o (i := 109) (by decide) rfl) rfl rfl (Nat.le_of_ble_eq_true rfl) (Nat.le_of_ble_eq_true rfl) (am_R.post H (fun v g1 hq => ?_))
  obtain ⟨r2, rfl, hw, H⟩ := hq
  change am_R _ _ _ _ _ [.inl r2] _ _
  refine r_if ((hp 6).trans rfl) (fun c8 => ?_) (fun c8 => ?_)
  · have H := H.1 c8
    refine am_R.next ((hp 17).trans rfl) rfl ?_
    refine r_getI ((hp 18).trans rfl) (hw.o (i := 109) (by decide) rfl) ?_
    refine am_R.next ((hp 21).trans rfl) rfl ?_
    refine am_R.next ((hp 22).trans rfl) rfl ?_
    refine am_R.next ((hp 23).trans rfl) rfl ?_
    refine am_R.next ((hp 24).trans rfl) rfl ?_
    refine am_R.next ((hp 25).trans rfl) rfl ?_
    refine r_cs (as := [.inr (.inl (g1.2.2.2 109 10)), .inr (.inl x1), .inr (.inl x2)]) (st' := []) ((hp 26).trans rfl) rfl rfl (Nat.le_of_ble_eq_true rfl) (Nat.le_of_ble_eq_true rfl) (am_R.post H (fun v g3 hq => ?_))
    obtain ⟨r4, rfl, hw, H⟩ := hq
    change am_R _ _ _ _ _ [.inl r4] _ _
    refine r_if ((hp 29).trans rfl) (fun c6 => ?_) (fun c6 => ?_)
    · have H := H.1 c6
      exact H
    · have H := H.2 (Decidable.not_not.mp c6)
      refine am_R.next ((hp 32).trans rfl) rfl ?_
      refine am_R.next ((hp 33).trans rfl) rfl ?_
      refine r_cv (bs := [.inl 3]) (st' := []) ((hp 34).trans rfl) (hw.o (i := 109) (by decide) rfl) rfl rfl (Nat.le_of_ble_eq_true rfl) (Nat.le_of_ble_eq_true rfl) (am_R.post H (fun v g5 hq => ?_))
      obtain ⟨rfl, hw, H⟩ := hq
      change am_R _ _ _ _ _ [] _ _
      exact H
  · have H := H.2 (Decidable.not_not.mp c8)
    refine am_R.next ((hp 9).trans rfl) rfl ?_
    refine am_R.next ((hp 10).trans rfl) rfl ?_
    refine r_cv (bs := [.inl 2]) (st' := []) ((hp 11).trans rfl) (hw.o (i := 109) (by decide) rfl) rfl rfl (Nat.le_of_ble_eq_true rfl) (Nat.le_of_ble_eq_true rfl) (am_R.post H (fun v g7 hq => ?_))
    obtain ⟨rfl, hw, H⟩ := hq
    change am_R _ _ _ _ _ [] _ _
    refine am_R.next ((hp 14).trans rfl) rfl ?_
    exact H
theorem w_M_takes_37 {scr : Nat × (Nat → Int)} {d : Nat} {h : am_H} {Q : Option am_V → am_H → Prop} {x1 x2 : Int} (hs : am_sc scr) (hw : wf h) (H : ∀ y1 : Int, y1 = h.2.2.2 109 10 → ((¬ ((h.2.2.2 109 11) = 0) → (Q (some (.inl y1)) h)) ∧ ((h.2.2.2 109 11) = 0 → (am_R (am_prog scr) d f_M_next 0 [some (.inr (.inr ((109 : Nat) : Int))), none] [] h (fun v g2 => v = none ∧ wf g2 ∧ (Q (some (.inl y1)) g2)))))) : am_R (am_prog scr) (d + 1) f_M_takes 37 [some (.inr (.inr ((109 : Nat) : Int))), some (.inl x1), some (.inl x2), none] [] h Q := by
  have hp : ∀ k, (am_prog scr).1 f_M_takes k = c_M_takes k := fun _ => rfl
  refine am_R.next ((hp 37).trans rfl) rfl ?_
  refine r_getI ((hp 38).trans rfl) (hw.o (i := 109) (by decide) rfl) ?_
  obtain ⟨y1, ey1⟩ : ∃ z : Int, z = h.2.2.2 109 10 := ⟨_, rfl⟩
  have H := H y1 ey1
  refine am_R.next (lv' := [some (.inr (.inr ((109 : Nat) : Int))), some (.inl x1), some (.inl x2), some (.inl y1)]) (st' := []) (h' := h) (pc' := 42) ((hp 41).trans rfl) (by rw [ey1]; rfl) ?_
  refine am_R.next ((hp 42).trans rfl) rfl ?_
  refine r_getI ((hp 43).trans rfl) (hw.o (i := 109) (by decide) rfl) ?_
  refine r_if ((hp 46).trans rfl) (fun c3 => ?_) (fun c3 => ?_)
  · have H := H.1 c3
    refine am_R.next ((hp 53).trans rfl) rfl ?_
    exact am_R.ret ((hp 54).trans rfl) rfl H
  · have H := H.2 (Decidable.not_not.mp c3)
    refine am_R.next ((hp 49).trans rfl) rfl ?_
    refine r_cv (bs := []) (st' := []) ((hp 50).trans rfl) (hw.o (i := 109) (by decide) rfl) rfl rfl (Nat.le_of_ble_eq_true rfl) (Nat.le_of_ble_eq_true rfl) (am_R.post H (fun v g2 hq => ?_))
    obtain ⟨rfl, hw, H⟩ := hq
    change am_R _ _ _ _ _ [] _ _
    refine am_R.next ((hp 53).trans rfl) rfl ?_
    exact am_R.ret ((hp 54).trans rfl) rfl H
theorem w_M_isIn_0 {scr : Nat × (Nat → Int)} {d : Nat} {h : am_H} {Q : Option am_V → am_H → Prop} {x0 x2 : Int} (hs : am_sc scr) (hw : wf h) (H : (¬ ((am_land (am_lshr x0 x2) 1) = 1) → (Q (some (.inl 0)) h)) ∧ ((am_land (am_lshr x0 x2) 1) = 1 → (Q (some (.inl 1)) h))) : am_R (am_prog scr) d f_M_isIn 0 [some (.inr (.inl x0)), none, some (.inl x2)] [] h Q := by
  have hp : ∀ k, (am_prog scr).1 f_M_isIn k = c_M_isIn k := fun _ => rfl
  refine am_R.next ((hp 0).trans rfl) rfl ?_
  refine am_R.next ((hp 1).trans rfl) rfl ?_
  refine am_R.next ((hp 2).trans rfl) rfl ?_
  refine am_R.next ((hp 3).trans rfl) rfl ?_
  refine am_R.next ((hp 4).trans rfl) rfl ?_
  refine am_R.next ((hp 5).trans rfl) rfl ?_
  refine am_R.next ((hp 6).trans rfl) rfl ?_
  refine r_if ((hp 7).trans rfl) (fun c1 => ?_) (fun c1 => ?_)
  · have H := H.1 (lc_net c1)
    refine am_R.next ((hp 14).trans rfl) rfl ?_
    exact r_zret ((hp 15).trans rfl) (Or.inl rfl) H
  · have H := H.2 (lc_nef c1)
    refine am_R.next ((hp 10).trans rfl) rfl ?_
    refine am_R.next ((hp 11).trans rfl) rfl ?_
    exact r_zret ((hp 15).trans rfl) (Or.inr rfl) H
theorem w_M_codes_0 {scr : Nat × (Nat → Int)} {d : Nat} {h : am_H} {Q : Option am_V → am_H → Prop} {x1 : Int} (hs : am_sc scr) (hw : wf h) (H : ((h.2.2.2 109 11) = 0 → (((0 ≤ (am_w (212 + (h.2.2.2 113 211))) ∧ (am_w (212 + (h.2.2.2 113 211))) < 1112)) ∧ (∀ h2 : am_H, h2 = am_put h 113 ((am_w (212 + (h.2.2.2 113 211))).toNat) x1 → (∀ h3 : am_H, h3 = am_put h2 113 211 (am_w ((h2.2.2.2 113 211) + 1)) → (Q none h3))))) ∧ (¬ ((h.2.2.2 109 11) = 0) → (Q none h))) : am_R (am_prog scr) d f_M_codes 0 [some (.inr (.inr ((109 : Nat) : Int))), some (.inl x1)] [] h Q := by
  have hp : ∀ k, (am_prog scr).1 f_M_codes k = c_M_codes k := fun _ => rfl
  refine am_R.next ((hp 0).trans rfl) rfl ?_
  refine r_getI ((hp 1).trans rfl) (hw.o (i := 109) (by decide) rfl) ?_
  refine r_if ((hp 4).trans rfl) (fun c4 => ?_) (fun c4 => ?_)
  · have H := H.1 c4
    refine am_R.next ((hp 8).trans rfl) rfl ?_
    refine r_getR ((hp 9).trans rfl) (hw.o (i := 109) (by decide) rfl) (hw.r wr_109_4) ?_
    refine am_R.next ((hp 12).trans rfl) rfl ?_
    refine am_R.next ((hp 15).trans rfl) rfl ?_
    refine r_getR ((hp 16).trans rfl) (hw.o (i := 109) (by decide) rfl) (hw.r wr_109_4) ?_
    refine am_R.next ((hp 19).trans rfl) rfl ?_
    refine r_iald ((hp 22).trans rfl) (hw.a (i := 113) (by decide) rfl (by decide) (by decide)) ?_
    refine am_R.next ((hp 23).trans rfl) rfl ?_
    refine am_R.next ((hp 24).trans rfl) rfl ?_
    obtain ⟨c1, H⟩ := H
    obtain ⟨h2, eh2⟩ : ∃ z : am_H, z = am_put h 113 ((am_w (212 + (h.2.2.2 113 211))).toNat) x1 := ⟨_, rfl⟩
    have H := H h2 eh2
    refine r_iast ((hp 25).trans rfl) (hw.a (i := 113) (by decide) rfl c1.1 c1.2) ?_
    have hw : wf h2 := by rw [eh2]; exact hw.pa na_113
    change am_R _ _ _ _ _ _ (am_put h 113 ((am_w (212 + (h.2.2.2 113 211))).toNat) x1) _
    rw [← eh2]
    refine am_R.next ((hp 26).trans rfl) rfl ?_
    refine r_getR ((hp 27).trans rfl) (hw.o (i := 109) (by decide) rfl) (hw.r wr_109_4) ?_
    refine am_R.next ((hp 30).trans rfl) rfl ?_
    refine am_R.next ((hp 33).trans rfl) rfl ?_
    refine r_iald ((hp 34).trans rfl) (hw.a (i := 113) (by decide) rfl (by decide) (by decide)) ?_
    refine am_R.next ((hp 35).trans rfl) rfl ?_
    refine am_R.next ((hp 36).trans rfl) rfl ?_
    obtain ⟨h3, eh3⟩ : ∃ z : am_H, z = am_put h2 113 211 (am_w ((h2.2.2.2 113 211) + 1)) := ⟨_, rfl⟩
    have H := H h3 eh3
    refine r_iast ((hp 37).trans rfl) (hw.a (i := 113) (by decide) rfl (by decide) (by decide)) ?_
    have hw : wf h3 := by rw [eh3]; exact hw.pa na_113
    change am_R _ _ _ _ _ _ (am_put h2 113 211 (am_w ((h2.2.2.2 113 211) + 1))) _
    rw [← eh3]
    exact am_R.ret ((hp 38).trans rfl) rfl H
  · have H := H.2 c4
    exact am_R.ret ((hp 7).trans rfl) rfl H
theorem w_M_goesIn_0 {scr : Nat × (Nat → Int)} {d : Nat} {h : am_H} {Q : Option am_V → am_H → Prop} {x1 : Int} (hs : am_sc scr) (hw : wf h) (H : (¬ (x1 = 6) → (am_R (am_prog scr) (d + 1) f_M_goesIn 11 [some (.inr (.inr ((109 : Nat) : Int))), some (.inl x1)] [] h Q)) ∧ (x1 = 6 → (am_R (am_prog scr) d f_M_fails 0 [some (.inr (.inr ((109 : Nat) : Int))), some (.inl 4)] [] h (fun v g1 => v = none ∧ wf g1 ∧ (am_R (am_prog scr) (d + 1) f_M_goesIn 11 [some (.inr (.inr ((109 : Nat) : Int))), some (.inl x1)] [] g1 Q))))) : am_R (am_prog scr) (d + 1) f_M_goesIn 0 [some (.inr (.inr ((109 : Nat) : Int))), some (.inl x1)] [] h Q := by
  have hp : ∀ k, (am_prog scr).1 f_M_goesIn k = c_M_goesIn k := fun _ => rfl
  refine am_R.next ((hp 0).trans rfl) rfl ?_
  refine am_R.next ((hp 1).trans rfl) rfl ?_
  refine r_ic ((hp 3).trans rfl) (fun c2 => ?_) (fun c2 => ?_)
  · have H := H.1 c2
    exact H
  · have H := H.2 (Decidable.not_not.mp c2)
    refine am_R.next ((hp 6).trans rfl) rfl ?_
    refine am_R.next ((hp 7).trans rfl) rfl ?_
    refine r_cv (bs := [.inl 4]) (st' := []) ((hp 8).trans rfl) (hw.o (i := 109) (by decide) rfl) rfl rfl (Nat.le_of_ble_eq_true rfl) (Nat.le_of_ble_eq_true rfl) (am_R.post H (fun v g1 hq => ?_))
    obtain ⟨rfl, hw, H⟩ := hq
    change am_R _ _ _ _ _ [] _ _
    exact H
theorem w_M_goesIn_11 {scr : Nat × (Nat → Int)} {d : Nat} {h : am_H} {Q : Option am_V → am_H → Prop} {x1 : Int} (hs : am_sc scr) (hw : wf h) (H : (¬ ((h.2.2.2 109 11) = 0) → ((¬ ((h.2.2.2 109 11) = 0) → (Q (some (.inl 0)) h)) ∧ ((h.2.2.2 109 11) = 0 → (Q (some (.inl 1)) h)))) ∧ ((h.2.2.2 109 11) = 0 → (am_R (am_prog scr) d f_M_next 0 [some (.inr (.inr ((109 : Nat) : Int))), none] [] h (fun v g2 => v = none ∧ wf g2 ∧ ((¬ ((g2.2.2.2 109 11) = 0) → (Q (some (.inl 0)) g2)) ∧ ((g2.2.2.2 109 11) = 0 → (Q (some (.inl 1)) g2))))))) : am_R (am_prog scr) (d + 1) f_M_goesIn 11 [some (.inr (.inr ((109 : Nat) : Int))), some (.inl x1)] [] h Q := by
  have hp : ∀ k, (am_prog scr).1 f_M_goesIn k = c_M_goesIn k := fun _ => rfl
  refine am_R.next ((hp 11).trans rfl) rfl ?_
  refine r_getI ((hp 12).trans rfl) (hw.o (i := 109) (by decide) rfl) ?_
  refine r_if ((hp 15).trans rfl) (fun c4 => ?_) (fun c4 => ?_)
  · have H := H.1 c4
    refine am_R.next ((hp 22).trans rfl) rfl ?_
    refine r_getI ((hp 23).trans rfl) (hw.o (i := 109) (by decide) rfl) ?_
    refine r_if ((hp 26).trans rfl) (fun c1 => ?_) (fun c1 => ?_)
    · have H := H.1 c1
      refine am_R.next ((hp 33).trans rfl) rfl ?_
      exact r_zret ((hp 34).trans rfl) (Or.inl rfl) H
    · have H := H.2 (Decidable.not_not.mp c1)
      refine am_R.next ((hp 29).trans rfl) rfl ?_
      refine am_R.next ((hp 30).trans rfl) rfl ?_
      exact r_zret ((hp 34).trans rfl) (Or.inr rfl) H
  · have H := H.2 (Decidable.not_not.mp c4)
    refine am_R.next ((hp 18).trans rfl) rfl ?_
    refine r_cv (bs := []) (st' := []) ((hp 19).trans rfl) (hw.o (i := 109) (by decide) rfl) rfl rfl (Nat.le_of_ble_eq_true rfl) (Nat.le_of_ble_eq_true rfl) (am_R.post H (fun v g2 hq => ?_))
    obtain ⟨rfl, hw, H⟩ := hq
    change am_R _ _ _ _ _ [] _ _
    refine am_R.next ((hp 22).trans rfl) rfl ?_
    refine r_getI ((hp 23).trans rfl) (hw.o (i := 109) (by decide) rfl) ?_
    refine r_if ((hp 26).trans rfl) (fun c3 => ?_) (fun c3 => ?_)
    · have H := H.1 c3
      refine am_R.next ((hp 33).trans rfl) rfl ?_
      exact r_zret ((hp 34).trans rfl) (Or.inl rfl) H
    · have H := H.2 (Decidable.not_not.mp c3)
      refine am_R.next ((hp 29).trans rfl) rfl ?_
      refine am_R.next ((hp 30).trans rfl) rfl ?_
      exact r_zret ((hp 34).trans rfl) (Or.inr rfl) H
theorem w_M_readAtom_0 {scr : Nat × (Nat → Int)} {d : Nat} {h : am_H} {Q : Option am_V → am_H → Prop} {x1 : Int} (hs : am_sc scr) (hw : wf h) (H : am_R (am_prog scr) d f_M_is 0 [some (.inr (.inr ((109 : Nat) : Int))), some (.inl 25)] [] h (fun v g1 => ∃ r2 : Int, v = some (.inl r2) ∧ wf g1 ∧ ((r2 = 0 → ((¬ ((g1.2.2.2 109 11) = 0) → (am_R (am_prog scr) (d + 1) f_M_readAtom 66 [some (.inr (.inr ((109 : Nat) : Int))), some (.inl x1)] [] g1 Q)) ∧ ((g1.2.2.2 109 11) = 0 → (am_R (am_prog scr) d f_M_wordOf 0 [some (.inr (.inr ((109 : Nat) : Int))), some (.inl (g1.2.2.2 109 9))] [] g1 (fun v g3 => ∃ r4 : Int, v = some (.inl r4) ∧ wf g3 ∧ ((r4 = (-1) → (am_R (am_prog scr) (d + 1) f_M_readAtom 66 [some (.inr (.inr ((109 : Nat) : Int))), some (.inl x1)] [] g3 Q)) ∧ (¬ (r4 = (-1)) → (am_R (am_prog scr) d f_M_wordOf 0 [some (.inr (.inr ((109 : Nat) : Int))), some (.inl (g3.2.2.2 109 9))] [] g3 (fun v g5 => ∃ r6 : Int, v = some (.inl r6) ∧ wf g5 ∧ (am_R (am_prog scr) d f_M_codes 0 [some (.inr (.inr ((109 : Nat) : Int))), some (.inl (am_w (1000 + r6)))] [] g5 (fun v g7 => v = none ∧ wf g7 ∧ (am_R (am_prog scr) d f_M_next 0 [some (.inr (.inr ((109 : Nat) : Int))), none] [] g7 (fun v g8 => v = none ∧ wf g8 ∧ (Q none g8)))))))))))))) ∧ (¬ (r2 = 0) → (am_R (am_prog scr) d f_M_codes 0 [some (.inr (.inr ((109 : Nat) : Int))), some (.inl (g1.2.2.2 109 10))] [] g1 (fun v g11 => v = none ∧ wf g11 ∧ (am_R (am_prog scr) d f_M_next 0 [some (.inr (.inr ((109 : Nat) : Int))), none] [] g11 (fun v g12 => v = none ∧ wf g12 ∧ (Q none g12))))))))) : am_R (am_prog scr) (d + 1) f_M_readAtom 0 [some (.inr (.inr ((109 : Nat) : Int))), some (.inl x1)] [] h Q := by
  have hp : ∀ k, (am_prog scr).1 f_M_readAtom k = c_M_readAtom k := fun _ => rfl
  refine am_R.next ((hp 0).trans rfl) rfl ?_
  refine am_R.next ((hp 1).trans rfl) rfl ?_
  refine r_cv (bs := [.inl 25]) (st' := []) ((hp 3).trans rfl) (hw.o (i := 109) (by decide) rfl) rfl rfl (Nat.le_of_ble_eq_true rfl) (Nat.le_of_ble_eq_true rfl) (am_R.post H (fun v g1 hq => ?_))
  obtain ⟨r2, rfl, hw, H⟩ := hq
  change am_R _ _ _ _ _ [.inl r2] _ _
  refine r_if ((hp 6).trans rfl) (fun c13 => ?_) (fun c13 => ?_)
  · have H := H.1 c13
    refine am_R.next ((hp 24).trans rfl) rfl ?_
    refine r_getI ((hp 25).trans rfl) (hw.o (i := 109) (by decide) rfl) ?_
    refine r_if ((hp 28).trans rfl) (fun c10 => ?_) (fun c10 => ?_)
    · have H := H.1 c10
      exact H
    · have H := H.2 (Decidable.not_not.mp c10)
      refine am_R.next ((hp 31).trans rfl) rfl ?_
      refine am_R.next ((hp 32).trans rfl) rfl ?_
      refine r_getI ((hp 33).trans rfl) (hw.o (i := 109) (by decide) rfl) ?_
      refine r_cv (bs := [.inl (g1.2.2.2 109 9)]) (st' := []) ((hp 36).trans rfl) (hw.o (i := 109) (by decide) rfl) rfl rfl (Nat.le_of_ble_eq_true rfl) (Nat.le_of_ble_eq_true rfl) (am_R.post H (fun v g3 hq => ?_))
      obtain ⟨r4, rfl, hw, H⟩ := hq
      change am_R _ _ _ _ _ [.inl r4] _ _
      refine am_R.next ((hp 39).trans rfl) rfl ?_
      refine r_ic ((hp 40).trans rfl) (fun c9 => ?_) (fun c9 => ?_)
      · have H := H.1 c9
        exact H
      · have H := H.2 c9
        refine am_R.next ((hp 43).trans rfl) rfl ?_
        refine am_R.next ((hp 44).trans rfl) rfl ?_
        refine am_R.next ((hp 47).trans rfl) rfl ?_
        refine am_R.next ((hp 48).trans rfl) rfl ?_
        refine r_getI ((hp 49).trans rfl) (hw.o (i := 109) (by decide) rfl) ?_
        refine r_cv (bs := [.inl (g3.2.2.2 109 9)]) (st' := [.inl 1000, .inr (.inr ((109 : Nat) : Int))]) ((hp 52).trans rfl) (hw.o (i := 109) (by decide) rfl) rfl rfl (Nat.le_of_ble_eq_true rfl) (Nat.le_of_ble_eq_true rfl) (am_R.post H (fun v g5 hq => ?_))
        obtain ⟨r6, rfl, hw, H⟩ := hq
        change am_R _ _ _ _ _ [.inl r6, .inl 1000, .inr (.inr ((109 : Nat) : Int))] _ _
        refine am_R.next ((hp 55).trans rfl) rfl ?_
        refine r_cv (bs := [.inl (am_w (1000 + r6))]) (st' := []) ((hp 56).trans rfl) (hw.o (i := 109) (by decide) rfl) rfl rfl (Nat.le_of_ble_eq_true rfl) (Nat.le_of_ble_eq_true rfl) (am_R.post H (fun v g7 hq => ?_))
        obtain ⟨rfl, hw, H⟩ := hq
        change am_R _ _ _ _ _ [] _ _
        refine am_R.next ((hp 59).trans rfl) rfl ?_
        refine r_cv (bs := []) (st' := []) ((hp 60).trans rfl) (hw.o (i := 109) (by decide) rfl) rfl rfl (Nat.le_of_ble_eq_true rfl) (Nat.le_of_ble_eq_true rfl) (am_R.post H (fun v g8 hq => ?_))
        obtain ⟨rfl, hw, H⟩ := hq
        change am_R _ _ _ _ _ [] _ _
        refine am_R.next ((hp 63).trans rfl) rfl ?_
        exact am_R.ret ((hp 130).trans rfl) rfl H
  · have H := H.2 c13
    refine am_R.next ((hp 9).trans rfl) rfl ?_
    refine am_R.next ((hp 10).trans rfl) rfl ?_
    refine r_getI ((hp 11).trans rfl) (hw.o (i := 109) (by decide) rfl) ?_
    refine r_cv (bs := [.inl (g1.2.2.2 109 10)]) (st' := []) ((hp 14).trans rfl) (hw.o (i := 109) (by decide) rfl) rfl rfl (Nat.le_of_ble_eq_true rfl) (Nat.le_of_ble_eq_true rfl) (am_R.post H (fun v g11 hq => ?_))
    obtain ⟨rfl, hw, H⟩ := hq
    change am_R _ _ _ _ _ [] _ _
    refine am_R.next ((hp 17).trans rfl) rfl ?_
    refine r_cv (bs := []) (st' := []) ((hp 18).trans rfl) (hw.o (i := 109) (by decide) rfl) rfl rfl (Nat.le_of_ble_eq_true rfl) (Nat.le_of_ble_eq_true rfl) (am_R.post H (fun v g12 hq => ?_))
    obtain ⟨rfl, hw, H⟩ := hq
    change am_R _ _ _ _ _ [] _ _
    refine am_R.next ((hp 21).trans rfl) rfl ?_
    exact am_R.ret ((hp 130).trans rfl) rfl H
theorem w_M_readAtom_66 {scr : Nat × (Nat → Int)} {d : Nat} {h : am_H} {Q : Option am_V → am_H → Prop} {x1 : Int} (hs : am_sc scr) (hw : wf h) (H : am_R (am_prog scr) d f_M_is 0 [some (.inr (.inr ((109 : Nat) : Int))), some (.inl 35)] [] h (fun v g1 => ∃ r2 : Int, v = some (.inl r2) ∧ wf g1 ∧ ((r2 = 0 → (am_R (am_prog scr) d f_M_is 0 [some (.inr (.inr ((109 : Nat) : Int))), some (.inl 13)] [] g1 (fun v g3 => ∃ r4 : Int, v = some (.inl r4) ∧ wf g3 ∧ ((r4 = 0 → (am_R (am_prog scr) d f_M_fails 0 [some (.inr (.inr ((109 : Nat) : Int))), some (.inl 2)] [] g3 (fun v g5 => v = none ∧ wf g5 ∧ (Q none g5)))) ∧ (¬ (r4 = 0) → (am_R (am_prog scr) d f_M_readIf 0 [some (.inr (.inr ((109 : Nat) : Int))), some (.inl x1)] [] g3 (fun v g6 => v = none ∧ wf g6 ∧ (Q none g6)))))))) ∧ (¬ (r2 = 0) → (am_R (am_prog scr) d f_M_goesIn 0 [some (.inr (.inr ((109 : Nat) : Int))), some (.inl x1)] [] g1 (fun v g8 => ∃ r9 : Int, v = some (.inl r9) ∧ wf g8 ∧ ((¬ (r9 = 0) → (am_R (am_prog scr) d f_M_readSum 0 [some (.inr (.inr ((109 : Nat) : Int))), some (.inl (am_w (x1 + 1))), none] [] g8 (fun v g10 => v = none ∧ wf g10 ∧ (am_R (am_prog scr) d f_M_eats 0 [some (.inr (.inr ((109 : Nat) : Int))), some (.inl 36)] [] g10 (fun v g11 => ∃ r12 : Int, v = some (.inl r12) ∧ wf g11 ∧ ((¬ (r12 = 0) → (Q none g11)) ∧ (r12 = 0 → (am_R (am_prog scr) d f_M_fails 0 [some (.inr (.inr ((109 : Nat) : Int))), some (.inl 2)] [] g11 (fun v g13 => v = none ∧ wf g13 ∧ (Q none g13)))))))))) ∧ (r9 = 0 → (Q none g8))))))))) : am_R (am_prog scr) (d + 1) f_M_readAtom 66 [some (.inr (.inr ((109 : Nat) : Int))), some (.inl x1)] [] h Q := by
  have hp : ∀ k, (am_prog scr).1 f_M_readAtom k = c_M_readAtom k := fun _ => rfl
  refine am_R.next ((hp 66).trans rfl) rfl ?_
  refine am_R.next ((hp 67).trans rfl) rfl ?_
  refine r_cv (bs := [.inl 35]) (st' := []) ((hp 69).trans rfl) (hw.o (i := 109) (by decide) rfl) rfl rfl (Nat.le_of_ble_eq_true rfl) (Nat.le_of_ble_eq_true rfl) (am_R.post H (fun v g1 hq => ?_))
  obtain ⟨r2, rfl, hw, H⟩ := hq
  change am_R _ _ _ _ _ [.inl r2] _ _
  refine r_if ((hp 72).trans rfl) (fun c16 => ?_) (fun c16 => ?_)
  · have H := H.1 c16
    refine am_R.next ((hp 108).trans rfl) rfl ?_
    refine am_R.next ((hp 109).trans rfl) rfl ?_
    refine r_cv (bs := [.inl 13]) (st' := []) ((hp 111).trans rfl) (hw.o (i := 109) (by decide) rfl) rfl rfl (Nat.le_of_ble_eq_true rfl) (Nat.le_of_ble_eq_true rfl) (am_R.post H (fun v g3 hq => ?_))
    obtain ⟨r4, rfl, hw, H⟩ := hq
    change am_R _ _ _ _ _ [.inl r4] _ _
    refine r_if ((hp 114).trans rfl) (fun c7 => ?_) (fun c7 => ?_)
    · have H := H.1 c7
      refine am_R.next ((hp 125).trans rfl) rfl ?_
      refine am_R.next ((hp 126).trans rfl) rfl ?_
      refine r_cv (bs := [.inl 2]) (st' := []) ((hp 127).trans rfl) (hw.o (i := 109) (by decide) rfl) rfl rfl (Nat.le_of_ble_eq_true rfl) (Nat.le_of_ble_eq_true rfl) (am_R.post H (fun v g5 hq => ?_))
      obtain ⟨rfl, hw, H⟩ := hq
      change am_R _ _ _ _ _ [] _ _
      exact am_R.ret ((hp 130).trans rfl) rfl H
    · have H := H.2 c7
      refine am_R.next ((hp 117).trans rfl) rfl ?_
      refine am_R.next ((hp 118).trans rfl) rfl ?_
      refine r_cv (bs := [.inl x1]) (st' := []) ((hp 119).trans rfl) (hw.o (i := 109) (by decide) rfl) rfl rfl (Nat.le_of_ble_eq_true rfl) (Nat.le_of_ble_eq_true rfl) (am_R.post H (fun v g6 hq => ?_))
      obtain ⟨rfl, hw, H⟩ := hq
      change am_R _ _ _ _ _ [] _ _
      refine am_R.next ((hp 122).trans rfl) rfl ?_
      exact am_R.ret ((hp 130).trans rfl) rfl H
  · have H := H.2 c16
    refine am_R.next ((hp 75).trans rfl) rfl ?_
    refine am_R.next ((hp 76).trans rfl) rfl ?_
    refine r_cv (bs := [.inl x1]) (st' := []) ((hp 77).trans rfl) (hw.o (i := 109) (by decide) rfl) rfl rfl (Nat.le_of_ble_eq_true rfl) (Nat.le_of_ble_eq_true rfl) (am_R.post H (fun v g8 hq => ?_))
    obtain ⟨r9, rfl, hw, H⟩ := hq
    change am_R _ _ _ _ _ [.inl r9] _ _
    refine r_if ((hp 80).trans rfl) (fun c15 => ?_) (fun c15 => ?_)
    · have H := H.1 c15
      refine am_R.next ((hp 84).trans rfl) rfl ?_
      refine am_R.next ((hp 85).trans rfl) rfl ?_
      refine am_R.next ((hp 86).trans rfl) rfl ?_
      refine am_R.next ((hp 87).trans rfl) rfl ?_
      refine r_cv (bs := [.inl (am_w (x1 + 1))]) (st' := []) ((hp 88).trans rfl) (hw.o (i := 109) (by decide) rfl) rfl rfl (Nat.le_of_ble_eq_true rfl) (Nat.le_of_ble_eq_true rfl) (am_R.post H (fun v g10 hq => ?_))
      obtain ⟨rfl, hw, H⟩ := hq
      change am_R _ _ _ _ _ [] _ _
      refine am_R.next ((hp 91).trans rfl) rfl ?_
      refine am_R.next ((hp 92).trans rfl) rfl ?_
      refine r_cv (bs := [.inl 36]) (st' := []) ((hp 94).trans rfl) (hw.o (i := 109) (by decide) rfl) rfl rfl (Nat.le_of_ble_eq_true rfl) (Nat.le_of_ble_eq_true rfl) (am_R.post H (fun v g11 hq => ?_))
      obtain ⟨r12, rfl, hw, H⟩ := hq
      change am_R _ _ _ _ _ [.inl r12] _ _
      refine r_if ((hp 97).trans rfl) (fun c14 => ?_) (fun c14 => ?_)
      · have H := H.1 c14
        exact am_R.ret ((hp 130).trans rfl) rfl H
      · have H := H.2 (Decidable.not_not.mp c14)
        refine am_R.next ((hp 100).trans rfl) rfl ?_
        refine am_R.next ((hp 101).trans rfl) rfl ?_
        refine r_cv (bs := [.inl 2]) (st' := []) ((hp 102).trans rfl) (hw.o (i := 109) (by decide) rfl) rfl rfl (Nat.le_of_ble_eq_true rfl) (Nat.le_of_ble_eq_true rfl) (am_R.post H (fun v g13 hq => ?_))
        obtain ⟨rfl, hw, H⟩ := hq
        change am_R _ _ _ _ _ [] _ _
        refine am_R.next ((hp 105).trans rfl) rfl ?_
        exact am_R.ret ((hp 130).trans rfl) rfl H
    · have H := H.2 (Decidable.not_not.mp c15)
      exact am_R.ret ((hp 83).trans rfl) rfl H
theorem w_M_readIf_0 {scr : Nat × (Nat → Int)} {d : Nat} {h : am_H} {Q : Option am_V → am_H → Prop} {x1 : Int} (hs : am_sc scr) (hw : wf h) (H : am_R (am_prog scr) d f_M_goesIn 0 [some (.inr (.inr ((109 : Nat) : Int))), some (.inl x1)] [] h (fun v g1 => ∃ r2 : Int, v = some (.inl r2) ∧ wf g1 ∧ ((¬ (r2 = 0) → (am_R (am_prog scr) d f_M_readTruth 0 [some (.inr (.inr ((109 : Nat) : Int))), some (.inl (am_w (x1 + 1)))] [] g1 (fun v g3 => v = none ∧ wf g3 ∧ (am_R (am_prog scr) d f_M_eats 0 [some (.inr (.inr ((109 : Nat) : Int))), some (.inl 14)] [] g3 (fun v g4 => ∃ r5 : Int, v = some (.inl r5) ∧ wf g4 ∧ ((¬ (r5 = 0) → (am_R (am_prog scr) (d + 1) f_M_readIf 30 [some (.inr (.inr ((109 : Nat) : Int))), some (.inl x1)] [] g4 Q)) ∧ (r5 = 0 → (am_R (am_prog scr) d f_M_fails 0 [some (.inr (.inr ((109 : Nat) : Int))), some (.inl 2)] [] g4 (fun v g6 => v = none ∧ wf g6 ∧ (am_R (am_prog scr) (d + 1) f_M_readIf 30 [some (.inr (.inr ((109 : Nat) : Int))), some (.inl x1)] [] g6 Q)))))))))) ∧ (r2 = 0 → (Q none g1))))) : am_R (am_prog scr) (d + 1) f_M_readIf 0 [some (.inr (.inr ((109 : Nat) : Int))), some (.inl x1)] [] h Q := by
  have hp : ∀ k, (am_prog scr).1 f_M_readIf k = c_M_readIf k := fun _ => rfl
  refine am_R.next ((hp 0).trans rfl) rfl ?_
  refine am_R.next ((hp 1).trans rfl) rfl ?_
  refine r_cv (bs := [.inl x1]) (st' := []) ((hp 2).trans rfl) (hw.o (i := 109) (by decide) rfl) rfl rfl (Nat.le_of_ble_eq_true rfl) (Nat.le_of_ble_eq_true rfl) (am_R.post H (fun v g1 hq => ?_))
  obtain ⟨r2, rfl, hw, H⟩ := hq
  change am_R _ _ _ _ _ [.inl r2] _ _
  refine r_if ((hp 5).trans rfl) (fun c8 => ?_) (fun c8 => ?_)
  · have H := H.1 c8
    refine am_R.next ((hp 9).trans rfl) rfl ?_
    refine am_R.next ((hp 10).trans rfl) rfl ?_
    refine am_R.next ((hp 11).trans rfl) rfl ?_
    refine am_R.next ((hp 12).trans rfl) rfl ?_
    refine r_cv (bs := [.inl (am_w (x1 + 1))]) (st' := []) ((hp 13).trans rfl) (hw.o (i := 109) (by decide) rfl) rfl rfl (Nat.le_of_ble_eq_true rfl) (Nat.le_of_ble_eq_true rfl) (am_R.post H (fun v g3 hq => ?_))
    obtain ⟨rfl, hw, H⟩ := hq
    change am_R _ _ _ _ _ [] _ _
    refine am_R.next ((hp 16).trans rfl) rfl ?_
    refine am_R.next ((hp 17).trans rfl) rfl ?_
    refine r_cv (bs := [.inl 14]) (st' := []) ((hp 19).trans rfl) (hw.o (i := 109) (by decide) rfl) rfl rfl (Nat.le_of_ble_eq_true rfl) (Nat.le_of_ble_eq_true rfl) (am_R.post H (fun v g4 hq => ?_))
    obtain ⟨r5, rfl, hw, H⟩ := hq
    change am_R _ _ _ _ _ [.inl r5] _ _
    refine r_if ((hp 22).trans rfl) (fun c7 => ?_) (fun c7 => ?_)
    · have H := H.1 c7
      exact H
    · have H := H.2 (Decidable.not_not.mp c7)
      refine am_R.next ((hp 25).trans rfl) rfl ?_
      refine am_R.next ((hp 26).trans rfl) rfl ?_
      refine r_cv (bs := [.inl 2]) (st' := []) ((hp 27).trans rfl) (hw.o (i := 109) (by decide) rfl) rfl rfl (Nat.le_of_ble_eq_true rfl) (Nat.le_of_ble_eq_true rfl) (am_R.post H (fun v g6 hq => ?_))
      obtain ⟨rfl, hw, H⟩ := hq
      change am_R _ _ _ _ _ [] _ _
      exact H
  · have H := H.2 (Decidable.not_not.mp c8)
    exact am_R.ret ((hp 8).trans rfl) rfl H
theorem w_M_readIf_30 {scr : Nat × (Nat → Int)} {d : Nat} {h : am_H} {Q : Option am_V → am_H → Prop} {x1 : Int} (hs : am_sc scr) (hw : wf h) (H : am_R (am_prog scr) d f_M_readSum 0 [some (.inr (.inr ((109 : Nat) : Int))), some (.inl (am_w (x1 + 1))), none] [] h (fun v g1 => v = none ∧ wf g1 ∧ (am_R (am_prog scr) d f_M_eats 0 [some (.inr (.inr ((109 : Nat) : Int))), some (.inl 15)] [] g1 (fun v g2 => ∃ r3 : Int, v = some (.inl r3) ∧ wf g2 ∧ ((¬ (r3 = 0) → (am_R (am_prog scr) (d + 1) f_M_readIf 51 [some (.inr (.inr ((109 : Nat) : Int))), some (.inl x1)] [] g2 Q)) ∧ (r3 = 0 → (am_R (am_prog scr) d f_M_fails 0 [some (.inr (.inr ((109 : Nat) : Int))), some (.inl 2)] [] g2 (fun v g4 => v = none ∧ wf g4 ∧ (am_R (am_prog scr) (d + 1) f_M_readIf 51 [some (.inr (.inr ((109 : Nat) : Int))), some (.inl x1)] [] g4 Q))))))))) : am_R (am_prog scr) (d + 1) f_M_readIf 30 [some (.inr (.inr ((109 : Nat) : Int))), some (.inl x1)] [] h Q := by
  have hp : ∀ k, (am_prog scr).1 f_M_readIf k = c_M_readIf k := fun _ => rfl
  refine am_R.next ((hp 30).trans rfl) rfl ?_
  refine am_R.next ((hp 31).trans rfl) rfl ?_
  refine am_R.next ((hp 32).trans rfl) rfl ?_
  refine am_R.next ((hp 33).trans rfl) rfl ?_
  refine r_cv (bs := [.inl (am_w (x1 + 1))]) (st' := []) ((hp 34).trans rfl) (hw.o (i := 109) (by decide) rfl) rfl rfl (Nat.le_of_ble_eq_true rfl) (Nat.le_of_ble_eq_true rfl) (am_R.post H (fun v g1 hq => ?_))
  obtain ⟨rfl, hw, H⟩ := hq
  change am_R _ _ _ _ _ [] _ _
  refine am_R.next ((hp 37).trans rfl) rfl ?_
  refine am_R.next ((hp 38).trans rfl) rfl ?_
  refine r_cv (bs := [.inl 15]) (st' := []) ((hp 40).trans rfl) (hw.o (i := 109) (by decide) rfl) rfl rfl (Nat.le_of_ble_eq_true rfl) (Nat.le_of_ble_eq_true rfl) (am_R.post H (fun v g2 hq => ?_))
  obtain ⟨r3, rfl, hw, H⟩ := hq
  change am_R _ _ _ _ _ [.inl r3] _ _
  refine r_if ((hp 43).trans rfl) (fun c5 => ?_) (fun c5 => ?_)
  · have H := H.1 c5
    exact H
  · have H := H.2 (Decidable.not_not.mp c5)
    refine am_R.next ((hp 46).trans rfl) rfl ?_
    refine am_R.next ((hp 47).trans rfl) rfl ?_
    refine r_cv (bs := [.inl 2]) (st' := []) ((hp 48).trans rfl) (hw.o (i := 109) (by decide) rfl) rfl rfl (Nat.le_of_ble_eq_true rfl) (Nat.le_of_ble_eq_true rfl) (am_R.post H (fun v g4 hq => ?_))
    obtain ⟨rfl, hw, H⟩ := hq
    change am_R _ _ _ _ _ [] _ _
    exact H
theorem w_M_readIf_51 {scr : Nat × (Nat → Int)} {d : Nat} {h : am_H} {Q : Option am_V → am_H → Prop} {x1 : Int} (hs : am_sc scr) (hw : wf h) (H : am_R (am_prog scr) d f_M_readSum 0 [some (.inr (.inr ((109 : Nat) : Int))), some (.inl (am_w (x1 + 1))), none] [] h (fun v g1 => v = none ∧ wf g1 ∧ (am_R (am_prog scr) d f_M_eats 0 [some (.inr (.inr ((109 : Nat) : Int))), some (.inl 16)] [] g1 (fun v g2 => ∃ r3 : Int, v = some (.inl r3) ∧ wf g2 ∧ ((¬ (r3 = 0) → (am_R (am_prog scr) d f_M_codes 0 [some (.inr (.inr ((109 : Nat) : Int))), some (.inl 3009)] [] g2 (fun v g4 => v = none ∧ wf g4 ∧ (Q none g4)))) ∧ (r3 = 0 → (am_R (am_prog scr) d f_M_fails 0 [some (.inr (.inr ((109 : Nat) : Int))), some (.inl 2)] [] g2 (fun v g5 => v = none ∧ wf g5 ∧ (am_R (am_prog scr) d f_M_codes 0 [some (.inr (.inr ((109 : Nat) : Int))), some (.inl 3009)] [] g5 (fun v g6 => v = none ∧ wf g6 ∧ (Q none g6))))))))))) : am_R (am_prog scr) (d + 1) f_M_readIf 51 [some (.inr (.inr ((109 : Nat) : Int))), some (.inl x1)] [] h Q := by
  have hp : ∀ k, (am_prog scr).1 f_M_readIf k = c_M_readIf k := fun _ => rfl
  refine am_R.next ((hp 51).trans rfl) rfl ?_
  refine am_R.next ((hp 52).trans rfl) rfl ?_
  refine am_R.next ((hp 53).trans rfl) rfl ?_
  refine am_R.next ((hp 54).trans rfl) rfl ?_
  refine r_cv (bs := [.inl (am_w (x1 + 1))]) (st' := []) ((hp 55).trans rfl) (hw.o (i := 109) (by decide) rfl) rfl rfl (Nat.le_of_ble_eq_true rfl) (Nat.le_of_ble_eq_true rfl) (am_R.post H (fun v g1 hq => ?_))
  obtain ⟨rfl, hw, H⟩ := hq
  change am_R _ _ _ _ _ [] _ _
  refine am_R.next ((hp 58).trans rfl) rfl ?_
  refine am_R.next ((hp 59).trans rfl) rfl ?_
  refine r_cv (bs := [.inl 16]) (st' := []) ((hp 61).trans rfl) (hw.o (i := 109) (by decide) rfl) rfl rfl (Nat.le_of_ble_eq_true rfl) (Nat.le_of_ble_eq_true rfl) (am_R.post H (fun v g2 hq => ?_))
  obtain ⟨r3, rfl, hw, H⟩ := hq
  change am_R _ _ _ _ _ [.inl r3] _ _
  refine r_if ((hp 64).trans rfl) (fun c7 => ?_) (fun c7 => ?_)
  · have H := H.1 c7
    refine am_R.next ((hp 72).trans rfl) rfl ?_
    refine am_R.next ((hp 73).trans rfl) rfl ?_
    refine r_cv (bs := [.inl 3009]) (st' := []) ((hp 76).trans rfl) (hw.o (i := 109) (by decide) rfl) rfl rfl (Nat.le_of_ble_eq_true rfl) (Nat.le_of_ble_eq_true rfl) (am_R.post H (fun v g4 hq => ?_))
    obtain ⟨rfl, hw, H⟩ := hq
    change am_R _ _ _ _ _ [] _ _
    exact am_R.ret ((hp 79).trans rfl) rfl H
  · have H := H.2 (Decidable.not_not.mp c7)
    refine am_R.next ((hp 67).trans rfl) rfl ?_
    refine am_R.next ((hp 68).trans rfl) rfl ?_
    refine r_cv (bs := [.inl 2]) (st' := []) ((hp 69).trans rfl) (hw.o (i := 109) (by decide) rfl) rfl rfl (Nat.le_of_ble_eq_true rfl) (Nat.le_of_ble_eq_true rfl) (am_R.post H (fun v g5 hq => ?_))
    obtain ⟨rfl, hw, H⟩ := hq
    change am_R _ _ _ _ _ [] _ _
    refine am_R.next ((hp 72).trans rfl) rfl ?_
    refine am_R.next ((hp 73).trans rfl) rfl ?_
    refine r_cv (bs := [.inl 3009]) (st' := []) ((hp 76).trans rfl) (hw.o (i := 109) (by decide) rfl) rfl rfl (Nat.le_of_ble_eq_true rfl) (Nat.le_of_ble_eq_true rfl) (am_R.post H (fun v g6 hq => ?_))
    obtain ⟨rfl, hw, H⟩ := hq
    change am_R _ _ _ _ _ [] _ _
    exact am_R.ret ((hp 79).trans rfl) rfl H
theorem w_M_readTerm_0 {scr : Nat × (Nat → Int)} {d : Nat} {h : am_H} {Q : Option am_V → am_H → Prop} {x1 : Int} (hs : am_sc scr) (hw : wf h) (H : am_R (am_prog scr) d f_M_readAtom 0 [some (.inr (.inr ((109 : Nat) : Int))), some (.inl x1)] [] h (fun v g1 => v = none ∧ wf g1 ∧ (am_R (am_prog scr) (d + 1) f_M_readTerm 5 [some (.inr (.inr ((109 : Nat) : Int))), some (.inl x1)] [] g1 Q))) : am_R (am_prog scr) (d + 1) f_M_readTerm 0 [some (.inr (.inr ((109 : Nat) : Int))), some (.inl x1)] [] h Q := by
  have hp : ∀ k, (am_prog scr).1 f_M_readTerm k = c_M_readTerm k := fun _ => rfl
  refine am_R.next ((hp 0).trans rfl) rfl ?_
  refine am_R.next ((hp 1).trans rfl) rfl ?_
  refine r_cv (bs := [.inl x1]) (st' := []) ((hp 2).trans rfl) (hw.o (i := 109) (by decide) rfl) rfl rfl (Nat.le_of_ble_eq_true rfl) (Nat.le_of_ble_eq_true rfl) (am_R.post H (fun v g1 hq => ?_))
  obtain ⟨rfl, hw, H⟩ := hq
  change am_R _ _ _ _ _ [] _ _
  exact H
theorem w_M_readTerm_5 {scr : Nat × (Nat → Int)} {d : Nat} {h : am_H} {Q : Option am_V → am_H → Prop} {x1 : Int} (hs : am_sc scr) (hw : wf h) (H : am_R (am_prog scr) d f_M_eats 0 [some (.inr (.inr ((109 : Nat) : Int))), some (.inl 34)] [] h (fun v g1 => ∃ r2 : Int, v = some (.inl r2) ∧ wf g1 ∧ ((r2 = 0 → (Q none g1)) ∧ (¬ (r2 = 0) → (am_R (am_prog scr) d f_M_readAtom 0 [some (.inr (.inr ((109 : Nat) : Int))), some (.inl x1)] [] g1 (fun v g3 => v = none ∧ wf g3 ∧ (am_R (am_prog scr) d f_M_codes 0 [some (.inr (.inr ((109 : Nat) : Int))), some (.inl 3002)] [] g3 (fun v g4 => v = none ∧ wf g4 ∧ (am_R (am_prog scr) (d + 1) f_M_readTerm 5 [some (.inr (.inr ((109 : Nat) : Int))), some (.inl x1)] [] g4 Q))))))))) : am_R (am_prog scr) (d + 1) f_M_readTerm 5 [some (.inr (.inr ((109 : Nat) : Int))), some (.inl x1)] [] h Q := by
  have hp : ∀ k, (am_prog scr).1 f_M_readTerm k = c_M_readTerm k := fun _ => rfl
  refine am_R.next ((hp 5).trans rfl) rfl ?_
  refine am_R.next ((hp 6).trans rfl) rfl ?_
  refine r_cv (bs := [.inl 34]) (st' := []) ((hp 8).trans rfl) (hw.o (i := 109) (by decide) rfl) rfl rfl (Nat.le_of_ble_eq_true rfl) (Nat.le_of_ble_eq_true rfl) (am_R.post H (fun v g1 hq => ?_))
  obtain ⟨r2, rfl, hw, H⟩ := hq
  change am_R _ _ _ _ _ [.inl r2] _ _
  refine r_if ((hp 11).trans rfl) (fun c5 => ?_) (fun c5 => ?_)
  · have H := H.1 c5
    exact am_R.ret ((hp 29).trans rfl) rfl H
  · have H := H.2 c5
    refine am_R.next ((hp 14).trans rfl) rfl ?_
    refine am_R.next ((hp 15).trans rfl) rfl ?_
    refine r_cv (bs := [.inl x1]) (st' := []) ((hp 16).trans rfl) (hw.o (i := 109) (by decide) rfl) rfl rfl (Nat.le_of_ble_eq_true rfl) (Nat.le_of_ble_eq_true rfl) (am_R.post H (fun v g3 hq => ?_))
    obtain ⟨rfl, hw, H⟩ := hq
    change am_R _ _ _ _ _ [] _ _
    refine am_R.next ((hp 19).trans rfl) rfl ?_
    refine am_R.next ((hp 20).trans rfl) rfl ?_
    refine r_cv (bs := [.inl 3002]) (st' := []) ((hp 23).trans rfl) (hw.o (i := 109) (by decide) rfl) rfl rfl (Nat.le_of_ble_eq_true rfl) (Nat.le_of_ble_eq_true rfl) (am_R.post H (fun v g4 hq => ?_))
    obtain ⟨rfl, hw, H⟩ := hq
    change am_R _ _ _ _ _ [] _ _
    refine am_R.next ((hp 26).trans rfl) rfl ?_
    exact H
theorem w_M_readSum_0 {scr : Nat × (Nat → Int)} {d : Nat} {h : am_H} {Q : Option am_V → am_H → Prop} {x1 : Int} (hs : am_sc scr) (hw : wf h) (H : am_R (am_prog scr) d f_M_readTerm 0 [some (.inr (.inr ((109 : Nat) : Int))), some (.inl x1)] [] h (fun v g1 => v = none ∧ wf g1 ∧ (am_R (am_prog scr) (d + 1) f_M_readSum 5 [some (.inr (.inr ((109 : Nat) : Int))), some (.inl x1), none] [] g1 Q))) : am_R (am_prog scr) (d + 1) f_M_readSum 0 [some (.inr (.inr ((109 : Nat) : Int))), some (.inl x1), none] [] h Q := by
  have hp : ∀ k, (am_prog scr).1 f_M_readSum k = c_M_readSum k := fun _ => rfl
  refine am_R.next ((hp 0).trans rfl) rfl ?_
  refine am_R.next ((hp 1).trans rfl) rfl ?_
  refine r_cv (bs := [.inl x1]) (st' := []) ((hp 2).trans rfl) (hw.o (i := 109) (by decide) rfl) rfl rfl (Nat.le_of_ble_eq_true rfl) (Nat.le_of_ble_eq_true rfl) (am_R.post H (fun v g1 hq => ?_))
  obtain ⟨rfl, hw, H⟩ := hq
  change am_R _ _ _ _ _ [] _ _
  exact H
theorem w_M_readSum_5 {scr : Nat × (Nat → Int)} {d : Nat} {h : am_H} {Q : Option am_V → am_H → Prop} {x1 : Int} (hs : am_sc scr) (hw : wf h) (H : am_R (am_prog scr) d f_M_is 0 [some (.inr (.inr ((109 : Nat) : Int))), some (.inl 32)] [] h (fun v g1 => ∃ r2 : Int, v = some (.inl r2) ∧ wf g1 ∧ ((¬ (r2 = 0) → (am_R (am_prog scr) (d + 1) f_M_readSum 23 [some (.inr (.inr ((109 : Nat) : Int))), some (.inl x1), none] [] g1 Q)) ∧ (r2 = 0 → (am_R (am_prog scr) d f_M_is 0 [some (.inr (.inr ((109 : Nat) : Int))), some (.inl 33)] [] g1 (fun v g3 => ∃ r4 : Int, v = some (.inl r4) ∧ wf g3 ∧ ((r4 = 0 → (Q none g3)) ∧ (¬ (r4 = 0) → (am_R (am_prog scr) (d + 1) f_M_readSum 23 [some (.inr (.inr ((109 : Nat) : Int))), some (.inl x1), none] [] g3 Q))))))))) : am_R (am_prog scr) (d + 1) f_M_readSum 5 [some (.inr (.inr ((109 : Nat) : Int))), some (.inl x1), none] [] h Q := by
  have hp : ∀ k, (am_prog scr).1 f_M_readSum k = c_M_readSum k := fun _ => rfl
  refine am_R.next ((hp 5).trans rfl) rfl ?_
  refine am_R.next ((hp 6).trans rfl) rfl ?_
  refine r_cv (bs := [.inl 32]) (st' := []) ((hp 8).trans rfl) (hw.o (i := 109) (by decide) rfl) rfl rfl (Nat.le_of_ble_eq_true rfl) (Nat.le_of_ble_eq_true rfl) (am_R.post H (fun v g1 hq => ?_))
  obtain ⟨r2, rfl, hw, H⟩ := hq
  change am_R _ _ _ _ _ [.inl r2] _ _
  refine r_if ((hp 11).trans rfl) (fun c6 => ?_) (fun c6 => ?_)
  · have H := H.1 c6
    exact H
  · have H := H.2 (Decidable.not_not.mp c6)
    refine am_R.next ((hp 14).trans rfl) rfl ?_
    refine am_R.next ((hp 15).trans rfl) rfl ?_
    refine r_cv (bs := [.inl 33]) (st' := []) ((hp 17).trans rfl) (hw.o (i := 109) (by decide) rfl) rfl rfl (Nat.le_of_ble_eq_true rfl) (Nat.le_of_ble_eq_true rfl) (am_R.post H (fun v g3 hq => ?_))
    obtain ⟨r4, rfl, hw, H⟩ := hq
    change am_R _ _ _ _ _ [.inl r4] _ _
    refine r_if ((hp 20).trans rfl) (fun c5 => ?_) (fun c5 => ?_)
    · have H := H.1 c5
      exact am_R.ret ((hp 59).trans rfl) rfl H
    · have H := H.2 c5
      exact H
theorem w_M_readSum_23 {scr : Nat × (Nat → Int)} {d : Nat} {h : am_H} {Q : Option am_V → am_H → Prop} {x1 : Int} (hs : am_sc scr) (hw : wf h) (H : (¬ ((h.2.2.2 109 9) = 32) → (am_R (am_prog scr) d f_M_next 0 [some (.inr (.inr ((109 : Nat) : Int))), none] [] h (fun v g1 => v = none ∧ wf g1 ∧ (am_R (am_prog scr) d f_M_readTerm 0 [some (.inr (.inr ((109 : Nat) : Int))), some (.inl x1)] [] g1 (fun v g2 => v = none ∧ wf g2 ∧ (am_R (am_prog scr) d f_M_codes 0 [some (.inr (.inr ((109 : Nat) : Int))), some (.inl 3001)] [] g2 (fun v g3 => v = none ∧ wf g3 ∧ (am_R (am_prog scr) (d + 1) f_M_readSum 5 [some (.inr (.inr ((109 : Nat) : Int))), some (.inl x1), none] [] g3 Q)))))))) ∧ ((h.2.2.2 109 9) = 32 → (am_R (am_prog scr) d f_M_next 0 [some (.inr (.inr ((109 : Nat) : Int))), none] [] h (fun v g4 => v = none ∧ wf g4 ∧ (am_R (am_prog scr) d f_M_readTerm 0 [some (.inr (.inr ((109 : Nat) : Int))), some (.inl x1)] [] g4 (fun v g5 => v = none ∧ wf g5 ∧ (am_R (am_prog scr) d f_M_codes 0 [some (.inr (.inr ((109 : Nat) : Int))), some (.inl 3000)] [] g5 (fun v g6 => v = none ∧ wf g6 ∧ (am_R (am_prog scr) (d + 1) f_M_readSum 5 [some (.inr (.inr ((109 : Nat) : Int))), some (.inl x1), none] [] g6 Q))))))))) : am_R (am_prog scr) (d + 1) f_M_readSum 23 [some (.inr (.inr ((109 : Nat) : Int))), some (.inl x1), none] [] h Q := by
  have hp : ∀ k, (am_prog scr).1 f_M_readSum k = c_M_readSum k := fun _ => rfl
  refine am_R.next ((hp 23).trans rfl) rfl ?_
  refine r_getI ((hp 24).trans rfl) (hw.o (i := 109) (by decide) rfl) ?_
  refine am_R.next ((hp 27).trans rfl) rfl ?_
  refine r_ic ((hp 29).trans rfl) (fun c7 => ?_) (fun c7 => ?_)
  · have H := H.1 c7
    refine am_R.next ((hp 38).trans rfl) rfl ?_
    refine am_R.next (lv' := [some (.inr (.inr ((109 : Nat) : Int))), some (.inl x1), some (.inl 3001)]) ((hp 41).trans rfl) rfl ?_
    refine am_R.next ((hp 42).trans rfl) rfl ?_
    refine r_cv (bs := []) (st' := []) ((hp 43).trans rfl) (hw.o (i := 109) (by decide) rfl) rfl rfl (Nat.le_of_ble_eq_true rfl) (Nat.le_of_ble_eq_true rfl) (am_R.post H (fun v g1 hq => ?_))
    obtain ⟨rfl, hw, H⟩ := hq
    change am_R _ _ _ _ _ [] _ _
    refine am_R.next ((hp 46).trans rfl) rfl ?_
    refine am_R.next ((hp 47).trans rfl) rfl ?_
    refine r_cv (bs := [.inl x1]) (st' := []) ((hp 48).trans rfl) (hw.o (i := 109) (by decide) rfl) rfl rfl (Nat.le_of_ble_eq_true rfl) (Nat.le_of_ble_eq_true rfl) (am_R.post H (fun v g2 hq => ?_))
    obtain ⟨rfl, hw, H⟩ := hq
    change am_R _ _ _ _ _ [] _ _
    refine am_R.next ((hp 51).trans rfl) rfl ?_
    refine am_R.next ((hp 52).trans rfl) rfl ?_
    refine r_cv (bs := [.inl 3001]) (st' := []) ((hp 53).trans rfl) (hw.o (i := 109) (by decide) rfl) rfl rfl (Nat.le_of_ble_eq_true rfl) (Nat.le_of_ble_eq_true rfl) (am_R.post H (fun v g3 hq => ?_))
    obtain ⟨rfl, hw, H⟩ := hq
    change am_R _ _ _ _ _ [] _ _
    refine am_R.next ((hp 56).trans rfl) rfl ?_
    exact r_le hs in_21 (le_k (le_k (le_d le_n))) H
  · have H := H.2 (Decidable.not_not.mp c7)
    refine am_R.next ((hp 32).trans rfl) rfl ?_
    refine am_R.next ((hp 35).trans rfl) rfl ?_
    refine am_R.next (lv' := [some (.inr (.inr ((109 : Nat) : Int))), some (.inl x1), some (.inl 3000)]) ((hp 41).trans rfl) rfl ?_
    refine am_R.next ((hp 42).trans rfl) rfl ?_
    refine r_cv (bs := []) (st' := []) ((hp 43).trans rfl) (hw.o (i := 109) (by decide) rfl) rfl rfl (Nat.le_of_ble_eq_true rfl) (Nat.le_of_ble_eq_true rfl) (am_R.post H (fun v g4 hq => ?_))
    obtain ⟨rfl, hw, H⟩ := hq
    change am_R _ _ _ _ _ [] _ _
    refine am_R.next ((hp 46).trans rfl) rfl ?_
    refine am_R.next ((hp 47).trans rfl) rfl ?_
    refine r_cv (bs := [.inl x1]) (st' := []) ((hp 48).trans rfl) (hw.o (i := 109) (by decide) rfl) rfl rfl (Nat.le_of_ble_eq_true rfl) (Nat.le_of_ble_eq_true rfl) (am_R.post H (fun v g5 hq => ?_))
    obtain ⟨rfl, hw, H⟩ := hq
    change am_R _ _ _ _ _ [] _ _
    refine am_R.next ((hp 51).trans rfl) rfl ?_
    refine am_R.next ((hp 52).trans rfl) rfl ?_
    refine r_cv (bs := [.inl 3000]) (st' := []) ((hp 53).trans rfl) (hw.o (i := 109) (by decide) rfl) rfl rfl (Nat.le_of_ble_eq_true rfl) (Nat.le_of_ble_eq_true rfl) (am_R.post H (fun v g6 hq => ?_))
    obtain ⟨rfl, hw, H⟩ := hq
    change am_R _ _ _ _ _ [] _ _
    refine am_R.next ((hp 56).trans rfl) rfl ?_
    exact r_le hs in_21 (le_k (le_k (le_d le_n))) H
theorem w_M_readUnit_0 {scr : Nat × (Nat → Int)} {d : Nat} {h : am_H} {Q : Option am_V → am_H → Prop} {x1 : Int} (hs : am_sc scr) (hw : wf h) (H : am_R (am_prog scr) d f_M_is 0 [some (.inr (.inr ((109 : Nat) : Int))), some (.inl 23)] [] h (fun v g1 => ∃ r2 : Int, v = some (.inl r2) ∧ wf g1 ∧ ((r2 = 0 → (am_R (am_prog scr) d f_M_is 0 [some (.inr (.inr ((109 : Nat) : Int))), some (.inl 37)] [] g1 (fun v g3 => ∃ r4 : Int, v = some (.inl r4) ∧ wf g3 ∧ ((r4 = 0 → (am_R (am_prog scr) d f_M_readSum 0 [some (.inr (.inr ((109 : Nat) : Int))), some (.inl x1), none] [] g3 (fun v g5 => v = none ∧ wf g5 ∧ (am_R (am_prog scr) d f_M_is 0 [some (.inr (.inr ((109 : Nat) : Int))), some (.inl 39)] [] g5 (fun v g6 => ∃ r7 : Int, v = some (.inl r7) ∧ wf g6 ∧ ((r7 = 0 → (am_R (am_prog scr) d f_M_is 0 [some (.inr (.inr ((109 : Nat) : Int))), some (.inl 40)] [] g6 (fun v g8 => ∃ r9 : Int, v = some (.inl r9) ∧ wf g8 ∧ ((r9 = 0 → (am_R (am_prog scr) d f_M_is 0 [some (.inr (.inr ((109 : Nat) : Int))), some (.inl 39)] [] g8 (fun v g10 => ∃ r11 : Int, v = some (.inl r11) ∧ wf g10 ∧ ((¬ (r11 = 0) → (am_R (am_prog scr) (d + 1) f_M_readUnit 139 [some (.inr (.inr ((109 : Nat) : Int))), some (.inl x1), some (.inl 3005)] [] g10 Q)) ∧ (r11 = 0 → (am_R (am_prog scr) d f_M_is 0 [some (.inr (.inr ((109 : Nat) : Int))), some (.inl 40)] [] g10 (fun v g12 => ∃ r13 : Int, v = some (.inl r13) ∧ wf g12 ∧ ((¬ (r13 = 0) → (am_R (am_prog scr) (d + 1) f_M_readUnit 139 [some (.inr (.inr ((109 : Nat) : Int))), some (.inl x1), some (.inl 3005)] [] g12 Q)) ∧ (r13 = 0 → (am_R (am_prog scr) d f_M_is 0 [some (.inr (.inr ((109 : Nat) : Int))), some (.inl 41)] [] g12 (fun v g14 => ∃ r15 : Int, v = some (.inl r15) ∧ wf g14 ∧ ((r15 = 0 → (am_R (am_prog scr) d f_M_fails 0 [some (.inr (.inr ((109 : Nat) : Int))), some (.inl 2)] [] g14 (fun v g16 => v = none ∧ wf g16 ∧ (am_R (am_prog scr) (d + 1) f_M_readUnit 151 [some (.inr (.inr ((109 : Nat) : Int))), some (.inl x1), some (.inl 3005)] [] g16 Q)))) ∧ (¬ (r15 = 0) → (am_R (am_prog scr) (d + 1) f_M_readUnit 139 [some (.inr (.inr ((109 : Nat) : Int))), some (.inl x1), some (.inl 3005)] [] g14 Q)))))))))))))) ∧ (¬ (r9 = 0) → (am_R (am_prog scr) d f_M_is 0 [some (.inr (.inr ((109 : Nat) : Int))), some (.inl 39)] [] g8 (fun v g20 => ∃ r21 : Int, v = some (.inl r21) ∧ wf g20 ∧ ((¬ (r21 = 0) → (am_R (am_prog scr) (d + 1) f_M_readUnit 139 [some (.inr (.inr ((109 : Nat) : Int))), some (.inl x1), some (.inl 3004)] [] g20 Q)) ∧ (r21 = 0 → (am_R (am_prog scr) d f_M_is 0 [some (.inr (.inr ((109 : Nat) : Int))), some (.inl 40)] [] g20 (fun v g22 => ∃ r23 : Int, v = some (.inl r23) ∧ wf g22 ∧ ((¬ (r23 = 0) → (am_R (am_prog scr) (d + 1) f_M_readUnit 139 [some (.inr (.inr ((109 : Nat) : Int))), some (.inl x1), some (.inl 3004)] [] g22 Q)) ∧ (r23 = 0 → (am_R (am_prog scr) d f_M_is 0 [some (.inr (.inr ((109 : Nat) : Int))), some (.inl 41)] [] g22 (fun v g24 => ∃ r25 : Int, v = some (.inl r25) ∧ wf g24 ∧ ((r25 = 0 → (am_R (am_prog scr) d f_M_fails 0 [some (.inr (.inr ((109 : Nat) : Int))), some (.inl 2)] [] g24 (fun v g26 => v = none ∧ wf g26 ∧ (am_R (am_prog scr) (d + 1) f_M_readUnit 151 [some (.inr (.inr ((109 : Nat) : Int))), some (.inl x1), some (.inl 3004)] [] g26 Q)))) ∧ (¬ (r25 = 0) → (am_R (am_prog scr) (d + 1) f_M_readUnit 139 [some (.inr (.inr ((109 : Nat) : Int))), some (.inl x1), some (.inl 3004)] [] g24 Q)))))))))))))))))) ∧ (¬ (r7 = 0) → (am_R (am_prog scr) d f_M_is 0 [some (.inr (.inr ((109 : Nat) : Int))), some (.inl 39)] [] g6 (fun v g31 => ∃ r32 : Int, v = some (.inl r32) ∧ wf g31 ∧ ((¬ (r32 = 0) → (am_R (am_prog scr) (d + 1) f_M_readUnit 139 [some (.inr (.inr ((109 : Nat) : Int))), some (.inl x1), some (.inl 3003)] [] g31 Q)) ∧ (r32 = 0 → (am_R (am_prog scr) d f_M_is 0 [some (.inr (.inr ((109 : Nat) : Int))), some (.inl 40)] [] g31 (fun v g33 => ∃ r34 : Int, v = some (.inl r34) ∧ wf g33 ∧ ((¬ (r34 = 0) → (am_R (am_prog scr) (d + 1) f_M_readUnit 139 [some (.inr (.inr ((109 : Nat) : Int))), some (.inl x1), some (.inl 3003)] [] g33 Q)) ∧ (r34 = 0 → (am_R (am_prog scr) d f_M_is 0 [some (.inr (.inr ((109 : Nat) : Int))), some (.inl 41)] [] g33 (fun v g35 => ∃ r36 : Int, v = some (.inl r36) ∧ wf g35 ∧ ((r36 = 0 → (am_R (am_prog scr) d f_M_fails 0 [some (.inr (.inr ((109 : Nat) : Int))), some (.inl 2)] [] g35 (fun v g37 => v = none ∧ wf g37 ∧ (am_R (am_prog scr) (d + 1) f_M_readUnit 151 [some (.inr (.inr ((109 : Nat) : Int))), some (.inl x1), some (.inl 3003)] [] g37 Q)))) ∧ (¬ (r36 = 0) → (am_R (am_prog scr) (d + 1) f_M_readUnit 139 [some (.inr (.inr ((109 : Nat) : Int))), some (.inl x1), some (.inl 3003)] [] g35 Q)))))))))))))))))))) ∧ (¬ (r4 = 0) → (am_R (am_prog scr) d f_M_goesIn 0 [some (.inr (.inr ((109 : Nat) : Int))), some (.inl x1)] [] g3 (fun v g42 => ∃ r43 : Int, v = some (.inl r43) ∧ wf g42 ∧ ((¬ (r43 = 0) → (am_R (am_prog scr) d f_M_readTruth 0 [some (.inr (.inr ((109 : Nat) : Int))), some (.inl (am_w (x1 + 1)))] [] g42 (fun v g44 => v = none ∧ wf g44 ∧ (am_R (am_prog scr) d f_M_eats 0 [some (.inr (.inr ((109 : Nat) : Int))), some (.inl 38)] [] g44 (fun v g45 => ∃ r46 : Int, v = some (.inl r46) ∧ wf g45 ∧ ((¬ (r46 = 0) → (Q none g45)) ∧ (r46 = 0 → (am_R (am_prog scr) d f_M_fails 0 [some (.inr (.inr ((109 : Nat) : Int))), some (.inl 2)] [] g45 (fun v g47 => v = none ∧ wf g47 ∧ (Q none g47)))))))))) ∧ (r43 = 0 → (Q none g42)))))))))) ∧ (¬ (r2 = 0) → (am_R (am_prog scr) d f_M_goesIn 0 [some (.inr (.inr ((109 : Nat) : Int))), some (.inl x1)] [] g1 (fun v g51 => ∃ r52 : Int, v = some (.inl r52) ∧ wf g51 ∧ ((¬ (r52 = 0) → (am_R (am_prog scr) d f_M_readUnit 0 [some (.inr (.inr ((109 : Nat) : Int))), some (.inl (am_w (x1 + 1))), none] [] g51 (fun v g53 => v = none ∧ wf g53 ∧ (am_R (am_prog scr) d f_M_codes 0 [some (.inr (.inr ((109 : Nat) : Int))), some (.inl 3006)] [] g53 (fun v g54 => v = none ∧ wf g54 ∧ (Q none g54)))))) ∧ (r52 = 0 → (Q none g51))))))))) : am_R (am_prog scr) (d + 1) f_M_readUnit 0 [some (.inr (.inr ((109 : Nat) : Int))), some (.inl x1), none] [] h Q := by
  have hp : ∀ k, (am_prog scr).1 f_M_readUnit k = c_M_readUnit k := fun _ => rfl
  refine am_R.next ((hp 0).trans rfl) rfl ?_
  refine am_R.next ((hp 1).trans rfl) rfl ?_
  refine r_cv (bs := [.inl 23]) (st' := []) ((hp 3).trans rfl) (hw.o (i := 109) (by decide) rfl) rfl rfl (Nat.le_of_ble_eq_true rfl) (Nat.le_of_ble_eq_true rfl) (am_R.post H (fun v g1 hq => ?_))
  obtain ⟨r2, rfl, hw, H⟩ := hq
  change am_R _ _ _ _ _ [.inl r2] _ _
  refine r_if ((hp 6).trans rfl) (fun c56 => ?_) (fun c56 => ?_)
  · have H := H.1 c56
    refine am_R.next ((hp 33).trans rfl) rfl ?_
    refine am_R.next ((hp 34).trans rfl) rfl ?_
    refine r_cv (bs := [.inl 37]) (st' := []) ((hp 36).trans rfl) (hw.o (i := 109) (by decide) rfl) rfl rfl (Nat.le_of_ble_eq_true rfl) (Nat.le_of_ble_eq_true rfl) (am_R.post H (fun v g3 hq => ?_))
    obtain ⟨r4, rfl, hw, H⟩ := hq
    change am_R _ _ _ _ _ [.inl r4] _ _
    refine r_if ((hp 39).trans rfl) (fun c50 => ?_) (fun c50 => ?_)
    · have H := H.1 c50
      refine am_R.next ((hp 73).trans rfl) rfl ?_
      refine am_R.next ((hp 74).trans rfl) rfl ?_
      refine r_cv (bs := [.inl x1]) (st' := []) ((hp 75).trans rfl) (hw.o (i := 109) (by decide) rfl) rfl rfl (Nat.le_of_ble_eq_true rfl) (Nat.le_of_ble_eq_true rfl) (am_R.post H (fun v g5 hq => ?_))
      obtain ⟨rfl, hw, H⟩ := hq
      change am_R _ _ _ _ _ [] _ _
      refine am_R.next ((hp 78).trans rfl) rfl ?_
      refine am_R.next ((hp 79).trans rfl) rfl ?_
      refine r_cv (bs := [.inl 39]) (st' := []) ((hp 81).trans rfl) (hw.o (i := 109) (by decide) rfl) rfl rfl (Nat.le_of_ble_eq_true rfl) (Nat.le_of_ble_eq_true rfl) (am_R.post H (fun v g6 hq => ?_))
      obtain ⟨r7, rfl, hw, H⟩ := hq
      change am_R _ _ _ _ _ [.inl r7] _ _
      refine r_if ((hp 84).trans rfl) (fun c41 => ?_) (fun c41 => ?_)
      · have H := H.1 c41
        refine am_R.next ((hp 93).trans rfl) rfl ?_
        refine am_R.next ((hp 94).trans rfl) rfl ?_
        refine r_cv (bs := [.inl 40]) (st' := []) ((hp 96).trans rfl) (hw.o (i := 109) (by decide) rfl) rfl rfl (Nat.le_of_ble_eq_true rfl) (Nat.le_of_ble_eq_true rfl) (am_R.post H (fun v g8 hq => ?_))
        obtain ⟨r9, rfl, hw, H⟩ := hq
        change am_R _ _ _ _ _ [.inl r9] _ _
        refine r_if ((hp 99).trans rfl) (fun c30 => ?_) (fun c30 => ?_)
        · have H := H.1 c30
          refine am_R.next ((hp 108).trans rfl) rfl ?_
          refine am_R.next (lv' := [some (.inr (.inr ((109 : Nat) : Int))), some (.inl x1), some (.inl 3005)]) ((hp 111).trans rfl) rfl ?_
          refine am_R.next ((hp 112).trans rfl) rfl ?_
          refine am_R.next ((hp 113).trans rfl) rfl ?_
          refine r_cv (bs := [.inl 39]) (st' := []) ((hp 115).trans rfl) (hw.o (i := 109) (by decide) rfl) rfl rfl (Nat.le_of_ble_eq_true rfl) (Nat.le_of_ble_eq_true rfl) (am_R.post H (fun v g10 hq => ?_))
          obtain ⟨r11, rfl, hw, H⟩ := hq
          change am_R _ _ _ _ _ [.inl r11] _ _
          refine r_if ((hp 118).trans rfl) (fun c19 => ?_) (fun c19 => ?_)
          · have H := H.1 c19
            exact H
          · have H := H.2 (Decidable.not_not.mp c19)
            refine am_R.next ((hp 121).trans rfl) rfl ?_
            refine am_R.next ((hp 122).trans rfl) rfl ?_
            refine r_cv (bs := [.inl 40]) (st' := []) ((hp 124).trans rfl) (hw.o (i := 109) (by decide) rfl) rfl rfl (Nat.le_of_ble_eq_true rfl) (Nat.le_of_ble_eq_true rfl) (am_R.post H (fun v g12 hq => ?_))
            obtain ⟨r13, rfl, hw, H⟩ := hq
            change am_R _ _ _ _ _ [.inl r13] _ _
            refine r_if ((hp 127).trans rfl) (fun c18 => ?_) (fun c18 => ?_)
            · have H := H.1 c18
              exact H
            · have H := H.2 (Decidable.not_not.mp c18)
              refine am_R.next ((hp 130).trans rfl) rfl ?_
              refine am_R.next ((hp 131).trans rfl) rfl ?_
              refine r_cv (bs := [.inl 41]) (st' := []) ((hp 133).trans rfl) (hw.o (i := 109) (by decide) rfl) rfl rfl (Nat.le_of_ble_eq_true rfl) (Nat.le_of_ble_eq_true rfl) (am_R.post H (fun v g14 hq => ?_))
              obtain ⟨r15, rfl, hw, H⟩ := hq
              change am_R _ _ _ _ _ [.inl r15] _ _
              refine r_if ((hp 136).trans rfl) (fun c17 => ?_) (fun c17 => ?_)
              · have H := H.1 c17
                refine am_R.next ((hp 146).trans rfl) rfl ?_
                refine am_R.next ((hp 147).trans rfl) rfl ?_
                refine r_cv (bs := [.inl 2]) (st' := []) ((hp 148).trans rfl) (hw.o (i := 109) (by decide) rfl) rfl rfl (Nat.le_of_ble_eq_true rfl) (Nat.le_of_ble_eq_true rfl) (am_R.post H (fun v g16 hq => ?_))
                obtain ⟨rfl, hw, H⟩ := hq
                change am_R _ _ _ _ _ [] _ _
                exact H
              · have H := H.2 c17
                exact H
        · have H := H.2 c30
          refine am_R.next ((hp 102).trans rfl) rfl ?_
          refine am_R.next ((hp 105).trans rfl) rfl ?_
          refine am_R.next (lv' := [some (.inr (.inr ((109 : Nat) : Int))), some (.inl x1), some (.inl 3004)]) ((hp 111).trans rfl) rfl ?_
          refine am_R.next ((hp 112).trans rfl) rfl ?_
          refine am_R.next ((hp 113).trans rfl) rfl ?_
          refine r_cv (bs := [.inl 39]) (st' := []) ((hp 115).trans rfl) (hw.o (i := 109) (by decide) rfl) rfl rfl (Nat.le_of_ble_eq_true rfl) (Nat.le_of_ble_eq_true rfl) (am_R.post H (fun v g20 hq => ?_))
          obtain ⟨r21, rfl, hw, H⟩ := hq
          change am_R _ _ _ _ _ [.inl r21] _ _
          refine r_if ((hp 118).trans rfl) (fun c29 => ?_) (fun c29 => ?_)
          · have H := H.1 c29
            exact H
          · have H := H.2 (Decidable.not_not.mp c29)
            refine am_R.next ((hp 121).trans rfl) rfl ?_
            refine am_R.next ((hp 122).trans rfl) rfl ?_
            refine r_cv (bs := [.inl 40]) (st' := []) ((hp 124).trans rfl) (hw.o (i := 109) (by decide) rfl) rfl rfl (Nat.le_of_ble_eq_true rfl) (Nat.le_of_ble_eq_true rfl) (am_R.post H (fun v g22 hq => ?_))
            obtain ⟨r23, rfl, hw, H⟩ := hq
            change am_R _ _ _ _ _ [.inl r23] _ _
            refine r_if ((hp 127).trans rfl) (fun c28 => ?_) (fun c28 => ?_)
            · have H := H.1 c28
              exact H
            · have H := H.2 (Decidable.not_not.mp c28)
              refine am_R.next ((hp 130).trans rfl) rfl ?_
              refine am_R.next ((hp 131).trans rfl) rfl ?_
              refine r_cv (bs := [.inl 41]) (st' := []) ((hp 133).trans rfl) (hw.o (i := 109) (by decide) rfl) rfl rfl (Nat.le_of_ble_eq_true rfl) (Nat.le_of_ble_eq_true rfl) (am_R.post H (fun v g24 hq => ?_))
              obtain ⟨r25, rfl, hw, H⟩ := hq
              change am_R _ _ _ _ _ [.inl r25] _ _
              refine r_if ((hp 136).trans rfl) (fun c27 => ?_) (fun c27 => ?_)
              · have H := H.1 c27
                refine am_R.next ((hp 146).trans rfl) rfl ?_
                refine am_R.next ((hp 147).trans rfl) rfl ?_
                refine r_cv (bs := [.inl 2]) (st' := []) ((hp 148).trans rfl) (hw.o (i := 109) (by decide) rfl) rfl rfl (Nat.le_of_ble_eq_true rfl) (Nat.le_of_ble_eq_true rfl) (am_R.post H (fun v g26 hq => ?_))
                obtain ⟨rfl, hw, H⟩ := hq
                change am_R _ _ _ _ _ [] _ _
                exact H
              · have H := H.2 c27
                exact H
      · have H := H.2 c41
        refine am_R.next ((hp 87).trans rfl) rfl ?_
        refine am_R.next ((hp 90).trans rfl) rfl ?_
        refine am_R.next (lv' := [some (.inr (.inr ((109 : Nat) : Int))), some (.inl x1), some (.inl 3003)]) ((hp 111).trans rfl) rfl ?_
        refine am_R.next ((hp 112).trans rfl) rfl ?_
        refine am_R.next ((hp 113).trans rfl) rfl ?_
        refine r_cv (bs := [.inl 39]) (st' := []) ((hp 115).trans rfl) (hw.o (i := 109) (by decide) rfl) rfl rfl (Nat.le_of_ble_eq_true rfl) (Nat.le_of_ble_eq_true rfl) (am_R.post H (fun v g31 hq => ?_))
        obtain ⟨r32, rfl, hw, H⟩ := hq
        change am_R _ _ _ _ _ [.inl r32] _ _
        refine r_if ((hp 118).trans rfl) (fun c40 => ?_) (fun c40 => ?_)
        · have H := H.1 c40
          exact H
        · have H := H.2 (Decidable.not_not.mp c40)
          refine am_R.next ((hp 121).trans rfl) rfl ?_
          refine am_R.next ((hp 122).trans rfl) rfl ?_
          refine r_cv (bs := [.inl 40]) (st' := []) ((hp 124).trans rfl) (hw.o (i := 109) (by decide) rfl) rfl rfl (Nat.le_of_ble_eq_true rfl) (Nat.le_of_ble_eq_true rfl) (am_R.post H (fun v g33 hq => ?_))
          obtain ⟨r34, rfl, hw, H⟩ := hq
          change am_R _ _ _ _ _ [.inl r34] _ _
          refine r_if ((hp 127).trans rfl) (fun c39 => ?_) (fun c39 => ?_)
          · have H := H.1 c39
            exact H
          · have H := H.2 (Decidable.not_not.mp c39)
            refine am_R.next ((hp 130).trans rfl) rfl ?_
            refine am_R.next ((hp 131).trans rfl) rfl ?_
            refine r_cv (bs := [.inl 41]) (st' := []) ((hp 133).trans rfl) (hw.o (i := 109) (by decide) rfl) rfl rfl (Nat.le_of_ble_eq_true rfl) (Nat.le_of_ble_eq_true rfl) (am_R.post H (fun v g35 hq => ?_))
            obtain ⟨r36, rfl, hw, H⟩ := hq
            change am_R _ _ _ _ _ [.inl r36] _ _
            refine r_if ((hp 136).trans rfl) (fun c38 => ?_) (fun c38 => ?_)
            · have H := H.1 c38
              refine am_R.next ((hp 146).trans rfl) rfl ?_
              refine am_R.next ((hp 147).trans rfl) rfl ?_
              refine r_cv (bs := [.inl 2]) (st' := []) ((hp 148).trans rfl) (hw.o (i := 109) (by decide) rfl) rfl rfl (Nat.le_of_ble_eq_true rfl) (Nat.le_of_ble_eq_true rfl) (am_R.post H (fun v g37 hq => ?_))
              obtain ⟨rfl, hw, H⟩ := hq
              change am_R _ _ _ _ _ [] _ _
              exact H
            · have H := H.2 c38
              exact H
    · have H := H.2 c50
      refine am_R.next ((hp 42).trans rfl) rfl ?_
      refine am_R.next ((hp 43).trans rfl) rfl ?_
      refine r_cv (bs := [.inl x1]) (st' := []) ((hp 44).trans rfl) (hw.o (i := 109) (by decide) rfl) rfl rfl (Nat.le_of_ble_eq_true rfl) (Nat.le_of_ble_eq_true rfl) (am_R.post H (fun v g42 hq => ?_))
      obtain ⟨r43, rfl, hw, H⟩ := hq
      change am_R _ _ _ _ _ [.inl r43] _ _
      refine r_if ((hp 47).trans rfl) (fun c49 => ?_) (fun c49 => ?_)
      · have H := H.1 c49
        refine am_R.next ((hp 51).trans rfl) rfl ?_
        refine am_R.next ((hp 52).trans rfl) rfl ?_
        refine am_R.next ((hp 53).trans rfl) rfl ?_
        refine am_R.next ((hp 54).trans rfl) rfl ?_
        refine r_cv (bs := [.inl (am_w (x1 + 1))]) (st' := []) ((hp 55).trans rfl) (hw.o (i := 109) (by decide) rfl) rfl rfl (Nat.le_of_ble_eq_true rfl) (Nat.le_of_ble_eq_true rfl) (am_R.post H (fun v g44 hq => ?_))
        obtain ⟨rfl, hw, H⟩ := hq
        change am_R _ _ _ _ _ [] _ _
        refine am_R.next ((hp 58).trans rfl) rfl ?_
        refine am_R.next ((hp 59).trans rfl) rfl ?_
        refine r_cv (bs := [.inl 38]) (st' := []) ((hp 61).trans rfl) (hw.o (i := 109) (by decide) rfl) rfl rfl (Nat.le_of_ble_eq_true rfl) (Nat.le_of_ble_eq_true rfl) (am_R.post H (fun v g45 hq => ?_))
        obtain ⟨r46, rfl, hw, H⟩ := hq
        change am_R _ _ _ _ _ [.inl r46] _ _
        refine r_if ((hp 64).trans rfl) (fun c48 => ?_) (fun c48 => ?_)
        · have H := H.1 c48
          exact am_R.ret ((hp 72).trans rfl) rfl H
        · have H := H.2 (Decidable.not_not.mp c48)
          refine am_R.next ((hp 67).trans rfl) rfl ?_
          refine am_R.next ((hp 68).trans rfl) rfl ?_
          refine r_cv (bs := [.inl 2]) (st' := []) ((hp 69).trans rfl) (hw.o (i := 109) (by decide) rfl) rfl rfl (Nat.le_of_ble_eq_true rfl) (Nat.le_of_ble_eq_true rfl) (am_R.post H (fun v g47 hq => ?_))
          obtain ⟨rfl, hw, H⟩ := hq
          change am_R _ _ _ _ _ [] _ _
          exact am_R.ret ((hp 72).trans rfl) rfl H
      · have H := H.2 (Decidable.not_not.mp c49)
        exact am_R.ret ((hp 50).trans rfl) rfl H
  · have H := H.2 c56
    refine am_R.next ((hp 9).trans rfl) rfl ?_
    refine am_R.next ((hp 10).trans rfl) rfl ?_
    refine r_cv (bs := [.inl x1]) (st' := []) ((hp 11).trans rfl) (hw.o (i := 109) (by decide) rfl) rfl rfl (Nat.le_of_ble_eq_true rfl) (Nat.le_of_ble_eq_true rfl) (am_R.post H (fun v g51 hq => ?_))
    obtain ⟨r52, rfl, hw, H⟩ := hq
    change am_R _ _ _ _ _ [.inl r52] _ _
    refine r_if ((hp 14).trans rfl) (fun c55 => ?_) (fun c55 => ?_)
    · have H := H.1 c55
      refine am_R.next ((hp 18).trans rfl) rfl ?_
      refine am_R.next ((hp 19).trans rfl) rfl ?_
      refine am_R.next ((hp 20).trans rfl) rfl ?_
      refine am_R.next ((hp 21).trans rfl) rfl ?_
      refine r_cv (bs := [.inl (am_w (x1 + 1))]) (st' := []) ((hp 22).trans rfl) (hw.o (i := 109) (by decide) rfl) rfl rfl (Nat.le_of_ble_eq_true rfl) (Nat.le_of_ble_eq_true rfl) (am_R.post H (fun v g53 hq => ?_))
      obtain ⟨rfl, hw, H⟩ := hq
      change am_R _ _ _ _ _ [] _ _
      refine am_R.next ((hp 25).trans rfl) rfl ?_
      refine am_R.next ((hp 26).trans rfl) rfl ?_
      refine r_cv (bs := [.inl 3006]) (st' := []) ((hp 29).trans rfl) (hw.o (i := 109) (by decide) rfl) rfl rfl (Nat.le_of_ble_eq_true rfl) (Nat.le_of_ble_eq_true rfl) (am_R.post H (fun v g54 hq => ?_))
      obtain ⟨rfl, hw, H⟩ := hq
      change am_R _ _ _ _ _ [] _ _
      exact am_R.ret ((hp 32).trans rfl) rfl H
    · have H := H.2 (Decidable.not_not.mp c55)
      exact am_R.ret ((hp 17).trans rfl) rfl H
theorem w_M_readUnit_139 {scr : Nat × (Nat → Int)} {d : Nat} {h : am_H} {Q : Option am_V → am_H → Prop} {x1 x2 : Int} (hs : am_sc scr) (hw : wf h) (H : am_R (am_prog scr) d f_M_next 0 [some (.inr (.inr ((109 : Nat) : Int))), none] [] h (fun v g1 => v = none ∧ wf g1 ∧ (am_R (am_prog scr) (d + 1) f_M_readUnit 151 [some (.inr (.inr ((109 : Nat) : Int))), some (.inl x1), some (.inl x2)] [] g1 Q))) : am_R (am_prog scr) (d + 1) f_M_readUnit 139 [some (.inr (.inr ((109 : Nat) : Int))), some (.inl x1), some (.inl x2)] [] h Q := by
  have hp : ∀ k, (am_prog scr).1 f_M_readUnit k = c_M_readUnit k := fun _ => rfl
  refine am_R.next ((hp 139).trans rfl) rfl ?_
  refine r_cv (bs := []) (st' := []) ((hp 140).trans rfl) (hw.o (i := 109) (by decide) rfl) rfl rfl (Nat.le_of_ble_eq_true rfl) (Nat.le_of_ble_eq_true rfl) (am_R.post H (fun v g1 hq => ?_))
  obtain ⟨rfl, hw, H⟩ := hq
  change am_R _ _ _ _ _ [] _ _
  refine am_R.next ((hp 143).trans rfl) rfl ?_
  exact H
theorem w_M_readUnit_151 {scr : Nat × (Nat → Int)} {d : Nat} {h : am_H} {Q : Option am_V → am_H → Prop} {x1 x2 : Int} (hs : am_sc scr) (hw : wf h) (H : am_R (am_prog scr) d f_M_readSum 0 [some (.inr (.inr ((109 : Nat) : Int))), some (.inl x1), none] [] h (fun v g1 => v = none ∧ wf g1 ∧ (am_R (am_prog scr) d f_M_codes 0 [some (.inr (.inr ((109 : Nat) : Int))), some (.inl x2)] [] g1 (fun v g2 => v = none ∧ wf g2 ∧ (Q none g2))))) : am_R (am_prog scr) (d + 1) f_M_readUnit 151 [some (.inr (.inr ((109 : Nat) : Int))), some (.inl x1), some (.inl x2)] [] h Q := by
  have hp : ∀ k, (am_prog scr).1 f_M_readUnit k = c_M_readUnit k := fun _ => rfl
  refine am_R.next ((hp 151).trans rfl) rfl ?_
  refine am_R.next ((hp 152).trans rfl) rfl ?_
  refine r_cv (bs := [.inl x1]) (st' := []) ((hp 153).trans rfl) (hw.o (i := 109) (by decide) rfl) rfl rfl (Nat.le_of_ble_eq_true rfl) (Nat.le_of_ble_eq_true rfl) (am_R.post H (fun v g1 hq => ?_))
  obtain ⟨rfl, hw, H⟩ := hq
  change am_R _ _ _ _ _ [] _ _
  refine am_R.next ((hp 156).trans rfl) rfl ?_
  refine am_R.next ((hp 157).trans rfl) rfl ?_
  refine r_cv (bs := [.inl x2]) (st' := []) ((hp 158).trans rfl) (hw.o (i := 109) (by decide) rfl) rfl rfl (Nat.le_of_ble_eq_true rfl) (Nat.le_of_ble_eq_true rfl) (am_R.post H (fun v g2 hq => ?_))
  obtain ⟨rfl, hw, H⟩ := hq
  change am_R _ _ _ _ _ [] _ _
  exact am_R.ret ((hp 161).trans rfl) rfl H
theorem w_M_readBoth_0 {scr : Nat × (Nat → Int)} {d : Nat} {h : am_H} {Q : Option am_V → am_H → Prop} {x1 : Int} (hs : am_sc scr) (hw : wf h) (H : am_R (am_prog scr) d f_M_readUnit 0 [some (.inr (.inr ((109 : Nat) : Int))), some (.inl x1), none] [] h (fun v g1 => v = none ∧ wf g1 ∧ (am_R (am_prog scr) (d + 1) f_M_readBoth 5 [some (.inr (.inr ((109 : Nat) : Int))), some (.inl x1)] [] g1 Q))) : am_R (am_prog scr) (d + 1) f_M_readBoth 0 [some (.inr (.inr ((109 : Nat) : Int))), some (.inl x1)] [] h Q := by
  have hp : ∀ k, (am_prog scr).1 f_M_readBoth k = c_M_readBoth k := fun _ => rfl
  refine am_R.next ((hp 0).trans rfl) rfl ?_
  refine am_R.next ((hp 1).trans rfl) rfl ?_
  refine r_cv (bs := [.inl x1]) (st' := []) ((hp 2).trans rfl) (hw.o (i := 109) (by decide) rfl) rfl rfl (Nat.le_of_ble_eq_true rfl) (Nat.le_of_ble_eq_true rfl) (am_R.post H (fun v g1 hq => ?_))
  obtain ⟨rfl, hw, H⟩ := hq
  change am_R _ _ _ _ _ [] _ _
  exact H
theorem w_M_readBoth_5 {scr : Nat × (Nat → Int)} {d : Nat} {h : am_H} {Q : Option am_V → am_H → Prop} {x1 : Int} (hs : am_sc scr) (hw : wf h) (H : am_R (am_prog scr) d f_M_eats 0 [some (.inr (.inr ((109 : Nat) : Int))), some (.inl 21)] [] h (fun v g1 => ∃ r2 : Int, v = some (.inl r2) ∧ wf g1 ∧ ((r2 = 0 → (Q none g1)) ∧ (¬ (r2 = 0) → (am_R (am_prog scr) d f_M_readUnit 0 [some (.inr (.inr ((109 : Nat) : Int))), some (.inl x1), none] [] g1 (fun v g3 => v = none ∧ wf g3 ∧ (am_R (am_prog scr) d f_M_codes 0 [some (.inr (.inr ((109 : Nat) : Int))), some (.inl 3007)] [] g3 (fun v g4 => v = none ∧ wf g4 ∧ (am_R (am_prog scr) (d + 1) f_M_readBoth 5 [some (.inr (.inr ((109 : Nat) : Int))), some (.inl x1)] [] g4 Q))))))))) : am_R (am_prog scr) (d + 1) f_M_readBoth 5 [some (.inr (.inr ((109 : Nat) : Int))), some (.inl x1)] [] h Q := by
  have hp : ∀ k, (am_prog scr).1 f_M_readBoth k = c_M_readBoth k := fun _ => rfl
  refine am_R.next ((hp 5).trans rfl) rfl ?_
  refine am_R.next ((hp 6).trans rfl) rfl ?_
  refine r_cv (bs := [.inl 21]) (st' := []) ((hp 8).trans rfl) (hw.o (i := 109) (by decide) rfl) rfl rfl (Nat.le_of_ble_eq_true rfl) (Nat.le_of_ble_eq_true rfl) (am_R.post H (fun v g1 hq => ?_))
  obtain ⟨r2, rfl, hw, H⟩ := hq
  change am_R _ _ _ _ _ [.inl r2] _ _
  refine r_if ((hp 11).trans rfl) (fun c5 => ?_) (fun c5 => ?_)
  · have H := H.1 c5
    exact am_R.ret ((hp 29).trans rfl) rfl H
  · have H := H.2 c5
    refine am_R.next ((hp 14).trans rfl) rfl ?_
    refine am_R.next ((hp 15).trans rfl) rfl ?_
    refine r_cv (bs := [.inl x1]) (st' := []) ((hp 16).trans rfl) (hw.o (i := 109) (by decide) rfl) rfl rfl (Nat.le_of_ble_eq_true rfl) (Nat.le_of_ble_eq_true rfl) (am_R.post H (fun v g3 hq => ?_))
    obtain ⟨rfl, hw, H⟩ := hq
    change am_R _ _ _ _ _ [] _ _
    refine am_R.next ((hp 19).trans rfl) rfl ?_
    refine am_R.next ((hp 20).trans rfl) rfl ?_
    refine r_cv (bs := [.inl 3007]) (st' := []) ((hp 23).trans rfl) (hw.o (i := 109) (by decide) rfl) rfl rfl (Nat.le_of_ble_eq_true rfl) (Nat.le_of_ble_eq_true rfl) (am_R.post H (fun v g4 hq => ?_))
    obtain ⟨rfl, hw, H⟩ := hq
    change am_R _ _ _ _ _ [] _ _
    refine am_R.next ((hp 26).trans rfl) rfl ?_
    exact H
theorem w_M_readTruth_0 {scr : Nat × (Nat → Int)} {d : Nat} {h : am_H} {Q : Option am_V → am_H → Prop} {x1 : Int} (hs : am_sc scr) (hw : wf h) (H : am_R (am_prog scr) d f_M_readBoth 0 [some (.inr (.inr ((109 : Nat) : Int))), some (.inl x1)] [] h (fun v g1 => v = none ∧ wf g1 ∧ (am_R (am_prog scr) (d + 1) f_M_readTruth 5 [some (.inr (.inr ((109 : Nat) : Int))), some (.inl x1)] [] g1 Q))) : am_R (am_prog scr) (d + 1) f_M_readTruth 0 [some (.inr (.inr ((109 : Nat) : Int))), some (.inl x1)] [] h Q := by
  have hp : ∀ k, (am_prog scr).1 f_M_readTruth k = c_M_readTruth k := fun _ => rfl
  refine am_R.next ((hp 0).trans rfl) rfl ?_
  refine am_R.next ((hp 1).trans rfl) rfl ?_
  refine r_cv (bs := [.inl x1]) (st' := []) ((hp 2).trans rfl) (hw.o (i := 109) (by decide) rfl) rfl rfl (Nat.le_of_ble_eq_true rfl) (Nat.le_of_ble_eq_true rfl) (am_R.post H (fun v g1 hq => ?_))
  obtain ⟨rfl, hw, H⟩ := hq
  change am_R _ _ _ _ _ [] _ _
  exact H
theorem w_M_readTruth_5 {scr : Nat × (Nat → Int)} {d : Nat} {h : am_H} {Q : Option am_V → am_H → Prop} {x1 : Int} (hs : am_sc scr) (hw : wf h) (H : am_R (am_prog scr) d f_M_eats 0 [some (.inr (.inr ((109 : Nat) : Int))), some (.inl 22)] [] h (fun v g1 => ∃ r2 : Int, v = some (.inl r2) ∧ wf g1 ∧ ((r2 = 0 → (Q none g1)) ∧ (¬ (r2 = 0) → (am_R (am_prog scr) d f_M_readBoth 0 [some (.inr (.inr ((109 : Nat) : Int))), some (.inl x1)] [] g1 (fun v g3 => v = none ∧ wf g3 ∧ (am_R (am_prog scr) d f_M_codes 0 [some (.inr (.inr ((109 : Nat) : Int))), some (.inl 3008)] [] g3 (fun v g4 => v = none ∧ wf g4 ∧ (am_R (am_prog scr) (d + 1) f_M_readTruth 5 [some (.inr (.inr ((109 : Nat) : Int))), some (.inl x1)] [] g4 Q))))))))) : am_R (am_prog scr) (d + 1) f_M_readTruth 5 [some (.inr (.inr ((109 : Nat) : Int))), some (.inl x1)] [] h Q := by
  have hp : ∀ k, (am_prog scr).1 f_M_readTruth k = c_M_readTruth k := fun _ => rfl
  refine am_R.next ((hp 5).trans rfl) rfl ?_
  refine am_R.next ((hp 6).trans rfl) rfl ?_
  refine r_cv (bs := [.inl 22]) (st' := []) ((hp 8).trans rfl) (hw.o (i := 109) (by decide) rfl) rfl rfl (Nat.le_of_ble_eq_true rfl) (Nat.le_of_ble_eq_true rfl) (am_R.post H (fun v g1 hq => ?_))
  obtain ⟨r2, rfl, hw, H⟩ := hq
  change am_R _ _ _ _ _ [.inl r2] _ _
  refine r_if ((hp 11).trans rfl) (fun c5 => ?_) (fun c5 => ?_)
  · have H := H.1 c5
    exact am_R.ret ((hp 29).trans rfl) rfl H
  · have H := H.2 c5
    refine am_R.next ((hp 14).trans rfl) rfl ?_
    refine am_R.next ((hp 15).trans rfl) rfl ?_
    refine r_cv (bs := [.inl x1]) (st' := []) ((hp 16).trans rfl) (hw.o (i := 109) (by decide) rfl) rfl rfl (Nat.le_of_ble_eq_true rfl) (Nat.le_of_ble_eq_true rfl) (am_R.post H (fun v g3 hq => ?_))
    obtain ⟨rfl, hw, H⟩ := hq
    change am_R _ _ _ _ _ [] _ _
    refine am_R.next ((hp 19).trans rfl) rfl ?_
    refine am_R.next ((hp 20).trans rfl) rfl ?_
    refine r_cv (bs := [.inl 3008]) (st' := []) ((hp 23).trans rfl) (hw.o (i := 109) (by decide) rfl) rfl rfl (Nat.le_of_ble_eq_true rfl) (Nat.le_of_ble_eq_true rfl) (am_R.post H (fun v g4 hq => ?_))
    obtain ⟨rfl, hw, H⟩ := hq
    change am_R _ _ _ _ _ [] _ _
    refine am_R.next ((hp 26).trans rfl) rfl ?_
    exact H
theorem w_M_named_0 {scr : Nat × (Nat → Int)} {d : Nat} {h : am_H} {Q : Option am_V → am_H → Prop} {x1 x2 x3 : Int} (hs : am_sc scr) (hw : wf h) (H : am_R (am_prog scr) d f_M_eats 0 [some (.inr (.inr ((109 : Nat) : Int))), some (.inl x1)] [] h (fun v g1 => ∃ r2 : Int, v = some (.inl r2) ∧ wf g1 ∧ ((¬ (r2 = 0) → (am_R (am_prog scr) d f_M_takes 0 [some (.inr (.inr ((109 : Nat) : Int))), some (.inl x2), some (.inl x3), none] [] g1 (fun v g3 => ∃ r4 : Int, v = some (.inl r4) ∧ wf g3 ∧ (Q (some (.inl r4)) g3)))) ∧ (r2 = 0 → (am_R (am_prog scr) d f_M_fails 0 [some (.inr (.inr ((109 : Nat) : Int))), some (.inl 2)] [] g1 (fun v g5 => v = none ∧ wf g5 ∧ (am_R (am_prog scr) d f_M_takes 0 [some (.inr (.inr ((109 : Nat) : Int))), some (.inl x2), some (.inl x3), none] [] g5 (fun v g6 => ∃ r7 : Int, v = some (.inl r7) ∧ wf g6 ∧ (Q (some (.inl r7)) g6))))))))) : am_R (am_prog scr) (d + 1) f_M_named 0 [some (.inr (.inr ((109 : Nat) : Int))), some (.inl x1), some (.inl x2), some (.inl x3)] [] h Q := by
  have hp : ∀ k, (am_prog scr).1 f_M_named k = c_M_named k := fun _ => rfl
  refine am_R.next ((hp 0).trans rfl) rfl ?_
  refine am_R.next ((hp 1).trans rfl) rfl ?_
  refine r_cv (bs := [.inl x1]) (st' := []) ((hp 2).trans rfl) (hw.o (i := 109) (by decide) rfl) rfl rfl (Nat.le_of_ble_eq_true rfl) (Nat.le_of_ble_eq_true rfl) (am_R.post H (fun v g1 hq => ?_))
  obtain ⟨r2, rfl, hw, H⟩ := hq
  change am_R _ _ _ _ _ [.inl r2] _ _
  refine r_if ((hp 5).trans rfl) (fun c8 => ?_) (fun c8 => ?_)
  · have H := H.1 c8
    refine am_R.next ((hp 13).trans rfl) rfl ?_
    refine am_R.next ((hp 14).trans rfl) rfl ?_
    refine am_R.next ((hp 15).trans rfl) rfl ?_
    refine r_cv (bs := [.inl x2, .inl x3]) (st' := []) ((hp 16).trans rfl) (hw.o (i := 109) (by decide) rfl) rfl rfl (Nat.le_of_ble_eq_true rfl) (Nat.le_of_ble_eq_true rfl) (am_R.post H (fun v g3 hq => ?_))
    obtain ⟨r4, rfl, hw, H⟩ := hq
    change am_R _ _ _ _ _ [.inl r4] _ _
    exact am_R.ret ((hp 19).trans rfl) rfl H
  · have H := H.2 (Decidable.not_not.mp c8)
    refine am_R.next ((hp 8).trans rfl) rfl ?_
    refine am_R.next ((hp 9).trans rfl) rfl ?_
    refine r_cv (bs := [.inl 2]) (st' := []) ((hp 10).trans rfl) (hw.o (i := 109) (by decide) rfl) rfl rfl (Nat.le_of_ble_eq_true rfl) (Nat.le_of_ble_eq_true rfl) (am_R.post H (fun v g5 hq => ?_))
    obtain ⟨rfl, hw, H⟩ := hq
    change am_R _ _ _ _ _ [] _ _
    refine am_R.next ((hp 13).trans rfl) rfl ?_
    refine am_R.next ((hp 14).trans rfl) rfl ?_
    refine am_R.next ((hp 15).trans rfl) rfl ?_
    refine r_cv (bs := [.inl x2, .inl x3]) (st' := []) ((hp 16).trans rfl) (hw.o (i := 109) (by decide) rfl) rfl rfl (Nat.le_of_ble_eq_true rfl) (Nat.le_of_ble_eq_true rfl) (am_R.post H (fun v g6 hq => ?_))
    obtain ⟨r7, rfl, hw, H⟩ := hq
    change am_R _ _ _ _ _ [.inl r7] _ _
    exact am_R.ret ((hp 19).trans rfl) rfl H
theorem w_M_isBedTold_0 {scr : Nat × (Nat → Int)} {d : Nat} {h : am_H} {Q : Option am_V → am_H → Prop} {x1 : Int} (hs : am_sc scr) (hw : wf h) (H : am_R (am_prog scr) d f_M_isBedTold 2 [some (.inr (.inr ((109 : Nat) : Int))), some (.inl x1), some (.inl 0)] [] h Q) : am_R (am_prog scr) d f_M_isBedTold 0 [some (.inr (.inr ((109 : Nat) : Int))), some (.inl x1), none] [] h Q := by
  have hp : ∀ k, (am_prog scr).1 f_M_isBedTold k = c_M_isBedTold k := fun _ => rfl
  refine am_R.next ((hp 0).trans rfl) rfl ?_
  refine am_R.next (lv' := [some (.inr (.inr ((109 : Nat) : Int))), some (.inl x1), some (.inl 0)]) ((hp 1).trans rfl) rfl ?_
  exact H
theorem w_M_isBedTold_2 {scr : Nat × (Nat → Int)} {d : Nat} {h : am_H} {Q : Option am_V → am_H → Prop} {x1 x2 : Int} (hs : am_sc scr) (hw : wf h) (H : (¬ (x2 < (h.2.2.2 113 4)) → (Q (some (.inl 0)) h)) ∧ (x2 < (h.2.2.2 113 4) → ((0 ≤ (am_w (16 + x2)) ∧ (am_w (16 + x2)) < 1112) ∧ ((¬ ((h.2.2.2 113 ((am_w (16 + x2)).toNat)) = x1) → (∀ y2 : Int, y2 = am_w (x2 + 1) → (am_R (am_prog scr) d f_M_isBedTold 2 [some (.inr (.inr ((109 : Nat) : Int))), some (.inl x1), some (.inl y2)] [] h Q))) ∧ ((h.2.2.2 113 ((am_w (16 + x2)).toNat)) = x1 → (Q (some (.inl 1)) h)))))) : am_R (am_prog scr) d f_M_isBedTold 2 [some (.inr (.inr ((109 : Nat) : Int))), some (.inl x1), some (.inl x2)] [] h Q := by
  have hp : ∀ k, (am_prog scr).1 f_M_isBedTold k = c_M_isBedTold k := fun _ => rfl
  refine am_R.next ((hp 2).trans rfl) rfl ?_
  refine am_R.next ((hp 3).trans rfl) rfl ?_
  refine r_getR ((hp 4).trans rfl) (hw.o (i := 109) (by decide) rfl) (hw.r wr_109_4) ?_
  refine am_R.next ((hp 7).trans rfl) rfl ?_
  refine r_iald ((hp 8).trans rfl) (hw.a (i := 113) (by decide) rfl (by decide) (by decide)) ?_
  refine r_ic ((hp 9).trans rfl) (fun c4 => ?_) (fun c4 => ?_)
  · have H := H.1 c4
    refine am_R.next ((hp 33).trans rfl) rfl ?_
    exact r_zret ((hp 34).trans rfl) (Or.inl rfl) H
  · have H := H.2 (Decidable.not_not.mp c4)
    refine am_R.next ((hp 12).trans rfl) rfl ?_
    refine r_getR ((hp 13).trans rfl) (hw.o (i := 109) (by decide) rfl) (hw.r wr_109_4) ?_
    refine am_R.next ((hp 16).trans rfl) rfl ?_
    refine am_R.next ((hp 18).trans rfl) rfl ?_
    refine am_R.next ((hp 19).trans rfl) rfl ?_
    obtain ⟨c1, H⟩ := H
    refine r_iald ((hp 20).trans rfl) (hw.a (i := 113) (by decide) rfl c1.1 c1.2) ?_
    refine am_R.next ((hp 21).trans rfl) rfl ?_
    refine r_ic ((hp 22).trans rfl) (fun c3 => ?_) (fun c3 => ?_)
    · have H := H.1 c3
      obtain ⟨y2, ey2⟩ : ∃ z : Int, z = am_w (x2 + 1) := ⟨_, rfl⟩
      have H := H y2 ey2
      refine am_R.next (lv' := [some (.inr (.inr ((109 : Nat) : Int))), some (.inl x1), some (.inl y2)]) (st' := []) (h' := h) (pc' := 30) ((hp 27).trans rfl) (by rw [ey2]; rfl) ?_
      refine am_R.next ((hp 30).trans rfl) rfl ?_
      exact H
    · have H := H.2 (Decidable.not_not.mp c3)
      refine am_R.next ((hp 25).trans rfl) rfl ?_
      exact r_zret ((hp 26).trans rfl) (Or.inr rfl) H
theorem w_M_readSleeper_0 {scr : Nat × (Nat → Int)} {d : Nat} {h : am_H} {Q : Option am_V → am_H → Prop} (hs : am_sc scr) (hw : wf h) (H : ∀ y1 : Int, y1 = h.2.2.2 113 4 → ((¬ (y1 = (h.2.2.2 113 1)) → (am_R (am_prog scr) (d + 1) f_M_readSleeper 22 [some (.inr (.inr ((109 : Nat) : Int))), some (.inl y1)] [] h Q)) ∧ (y1 = (h.2.2.2 113 1) → (am_R (am_prog scr) d f_M_fails 0 [some (.inr (.inr ((109 : Nat) : Int))), some (.inl 4)] [] h (fun v g2 => v = none ∧ wf g2 ∧ (am_R (am_prog scr) (d + 1) f_M_readSleeper 22 [some (.inr (.inr ((109 : Nat) : Int))), some (.inl y1)] [] g2 Q)))))) : am_R (am_prog scr) (d + 1) f_M_readSleeper 0 [some (.inr (.inr ((109 : Nat) : Int))), none] [] h Q := by
  have hp : ∀ k, (am_prog scr).1 f_M_readSleeper k = c_M_readSleeper k := fun _ => rfl
  refine am_R.next ((hp 0).trans rfl) rfl ?_
  refine r_getR ((hp 1).trans rfl) (hw.o (i := 109) (by decide) rfl) (hw.r wr_109_4) ?_
  refine am_R.next ((hp 4).trans rfl) rfl ?_
  refine r_iald ((hp 5).trans rfl) (hw.a (i := 113) (by decide) rfl (by decide) (by decide)) ?_
  obtain ⟨y1, ey1⟩ : ∃ z : Int, z = h.2.2.2 113 4 := ⟨_, rfl⟩
  have H := H y1 ey1
  refine am_R.next (lv' := [some (.inr (.inr ((109 : Nat) : Int))), some (.inl y1)]) (st' := []) (h' := h) (pc' := 7) ((hp 6).trans rfl) (by rw [ey1]; rfl) ?_
  refine am_R.next ((hp 7).trans rfl) rfl ?_
  refine am_R.next ((hp 8).trans rfl) rfl ?_
  refine r_getR ((hp 9).trans rfl) (hw.o (i := 109) (by decide) rfl) (hw.r wr_109_4) ?_
  refine am_R.next ((hp 12).trans rfl) rfl ?_
  refine r_iald ((hp 13).trans rfl) (hw.a (i := 113) (by decide) rfl (by decide) (by decide)) ?_
  refine r_ic ((hp 14).trans rfl) (fun c3 => ?_) (fun c3 => ?_)
  · have H := H.1 c3
    exact H
  · have H := H.2 (Decidable.not_not.mp c3)
    refine am_R.next ((hp 17).trans rfl) rfl ?_
    refine am_R.next ((hp 18).trans rfl) rfl ?_
    refine r_cv (bs := [.inl 4]) (st' := []) ((hp 19).trans rfl) (hw.o (i := 109) (by decide) rfl) rfl rfl (Nat.le_of_ble_eq_true rfl) (Nat.le_of_ble_eq_true rfl) (am_R.post H (fun v g2 hq => ?_))
    obtain ⟨rfl, hw, H⟩ := hq
    change am_R _ _ _ _ _ [] _ _
    exact H
theorem w_M_readSleeper_22 {scr : Nat × (Nat → Int)} {d : Nat} {h : am_H} {Q : Option am_V → am_H → Prop} {x1 : Int} (hs : am_sc scr) (hw : wf h) (H : ((h.2.2.2 109 11) = 0 → (am_R (am_prog scr) d f_M_next 0 [some (.inr (.inr ((109 : Nat) : Int))), none] [] h (fun v g1 => v = none ∧ wf g1 ∧ (am_R (am_prog scr) d f_M_eats 0 [some (.inr (.inr ((109 : Nat) : Int))), some (.inl 5)] [] g1 (fun v g2 => ∃ r3 : Int, v = some (.inl r3) ∧ wf g2 ∧ ((¬ (r3 = 0) → (am_R (am_prog scr) (d + 1) f_M_readSleeper 47 [some (.inr (.inr ((109 : Nat) : Int))), some (.inl x1)] [] g2 Q)) ∧ (r3 = 0 → (am_R (am_prog scr) d f_M_fails 0 [some (.inr (.inr ((109 : Nat) : Int))), some (.inl 2)] [] g2 (fun v g4 => v = none ∧ wf g4 ∧ (am_R (am_prog scr) (d + 1) f_M_readSleeper 47 [some (.inr (.inr ((109 : Nat) : Int))), some (.inl x1)] [] g4 Q)))))))))) ∧ (¬ ((h.2.2.2 109 11) = 0) → (Q none h))) : am_R (am_prog scr) (d + 1) f_M_readSleeper 22 [some (.inr (.inr ((109 : Nat) : Int))), some (.inl x1)] [] h Q := by
  have hp : ∀ k, (am_prog scr).1 f_M_readSleeper k = c_M_readSleeper k := fun _ => rfl
  refine am_R.next ((hp 22).trans rfl) rfl ?_
  refine r_getI ((hp 23).trans rfl) (hw.o (i := 109) (by decide) rfl) ?_
  refine r_if ((hp 26).trans rfl) (fun c6 => ?_) (fun c6 => ?_)
  · have H := H.1 c6
    refine am_R.next ((hp 30).trans rfl) rfl ?_
    refine r_cv (bs := []) (st' := []) ((hp 31).trans rfl) (hw.o (i := 109) (by decide) rfl) rfl rfl (Nat.le_of_ble_eq_true rfl) (Nat.le_of_ble_eq_true rfl) (am_R.post H (fun v g1 hq => ?_))
    obtain ⟨rfl, hw, H⟩ := hq
    change am_R _ _ _ _ _ [] _ _
    refine am_R.next ((hp 34).trans rfl) rfl ?_
    refine am_R.next ((hp 35).trans rfl) rfl ?_
    refine r_cv (bs := [.inl 5]) (st' := []) ((hp 36).trans rfl) (hw.o (i := 109) (by decide) rfl) rfl rfl (Nat.le_of_ble_eq_true rfl) (Nat.le_of_ble_eq_true rfl) (am_R.post H (fun v g2 hq => ?_))
    obtain ⟨r3, rfl, hw, H⟩ := hq
    change am_R _ _ _ _ _ [.inl r3] _ _
    refine r_if ((hp 39).trans rfl) (fun c5 => ?_) (fun c5 => ?_)
    · have H := H.1 c5
      exact H
    · have H := H.2 (Decidable.not_not.mp c5)
      refine am_R.next ((hp 42).trans rfl) rfl ?_
      refine am_R.next ((hp 43).trans rfl) rfl ?_
      refine r_cv (bs := [.inl 2]) (st' := []) ((hp 44).trans rfl) (hw.o (i := 109) (by decide) rfl) rfl rfl (Nat.le_of_ble_eq_true rfl) (Nat.le_of_ble_eq_true rfl) (am_R.post H (fun v g4 hq => ?_))
      obtain ⟨rfl, hw, H⟩ := hq
      change am_R _ _ _ _ _ [] _ _
      exact H
  · have H := H.2 c6
    exact am_R.ret ((hp 29).trans rfl) rfl H
theorem w_M_readSleeper_47 {scr : Nat × (Nat → Int)} {d : Nat} {h : am_H} {Q : Option am_V → am_H → Prop} {x1 : Int} (hs : am_sc scr) (hw : wf h) (H : am_R (am_prog scr) d f_M_is 0 [some (.inr (.inr ((109 : Nat) : Int))), some (.inl 25)] [] h (fun v g1 => ∃ r2 : Int, v = some (.inl r2) ∧ wf g1 ∧ ((r2 = 0 → (am_R (am_prog scr) (d + 1) f_M_readSleeper 72 [some (.inr (.inr ((109 : Nat) : Int))), some (.inl x1)] [] g1 Q)) ∧ (¬ (r2 = 0) → (am_R (am_prog scr) d f_M_isBedTold 0 [some (.inr (.inr ((109 : Nat) : Int))), some (.inl (g1.2.2.2 109 10)), none] [] g1 (fun v g3 => ∃ r4 : Int, v = some (.inl r4) ∧ wf g3 ∧ ((r4 = 0 → (am_R (am_prog scr) (d + 1) f_M_readSleeper 72 [some (.inr (.inr ((109 : Nat) : Int))), some (.inl x1)] [] g3 Q)) ∧ (¬ (r4 = 0) → (am_R (am_prog scr) d f_M_fails 0 [some (.inr (.inr ((109 : Nat) : Int))), some (.inl 3)] [] g3 (fun v g5 => v = none ∧ wf g5 ∧ (am_R (am_prog scr) (d + 1) f_M_readSleeper 72 [some (.inr (.inr ((109 : Nat) : Int))), some (.inl x1)] [] g5 Q))))))))))) : am_R (am_prog scr) (d + 1) f_M_readSleeper 47 [some (.inr (.inr ((109 : Nat) : Int))), some (.inl x1)] [] h Q := by
  have hp : ∀ k, (am_prog scr).1 f_M_readSleeper k = c_M_readSleeper k := fun _ => rfl
  refine am_R.next ((hp 47).trans rfl) rfl ?_
  refine am_R.next ((hp 48).trans rfl) rfl ?_
  refine r_cv (bs := [.inl 25]) (st' := []) ((hp 50).trans rfl) (hw.o (i := 109) (by decide) rfl) rfl rfl (Nat.le_of_ble_eq_true rfl) (Nat.le_of_ble_eq_true rfl) (am_R.post H (fun v g1 hq => ?_))
  obtain ⟨r2, rfl, hw, H⟩ := hq
  change am_R _ _ _ _ _ [.inl r2] _ _
  refine r_if ((hp 53).trans rfl) (fun c7 => ?_) (fun c7 => ?_)
  · have H := H.1 c7
    exact H
  · have H := H.2 c7
    refine am_R.next ((hp 56).trans rfl) rfl ?_
    refine am_R.next ((hp 57).trans rfl) rfl ?_
    refine r_getI ((hp 58).trans rfl) (hw.o (i := 109) (by decide) rfl) ?_
    refine r_cv (bs := [.inl (g1.2.2.2 109 10)]) (st' := []) ((hp 61).trans rfl) (hw.o (i := 109) (by decide) rfl) rfl rfl (Nat.le_of_ble_eq_true rfl) (Nat.le_of_ble_eq_true rfl) (am_R.post H (fun v g3 hq => ?_))
    obtain ⟨r4, rfl, hw, H⟩ := hq
    change am_R _ _ _ _ _ [.inl r4] _ _
    refine r_if ((hp 64).trans rfl) (fun c6 => ?_) (fun c6 => ?_)
    · have H := H.1 c6
      exact H
    · have H := H.2 c6
      refine am_R.next ((hp 67).trans rfl) rfl ?_
      refine am_R.next ((hp 68).trans rfl) rfl ?_
      refine r_cv (bs := [.inl 3]) (st' := []) ((hp 69).trans rfl) (hw.o (i := 109) (by decide) rfl) rfl rfl (Nat.le_of_ble_eq_true rfl) (Nat.le_of_ble_eq_true rfl) (am_R.post H (fun v g5 hq => ?_))
      obtain ⟨rfl, hw, H⟩ := hq
      change am_R _ _ _ _ _ [] _ _
      exact H
theorem w_M_readSleeper_72 {scr : Nat × (Nat → Int)} {d : Nat} {h : am_H} {Q : Option am_V → am_H → Prop} {x1 : Int} (hs : am_sc scr) (hw : wf h) (H : am_R (am_prog scr) d f_M_takes 0 [some (.inr (.inr ((109 : Nat) : Int))), some (.inl 0), some (.inl (am_w ((h.2.2.2 113 1) - 1))), none] [] h (fun v g1 => ∃ r2 : Int, v = some (.inl r2) ∧ wf g1 ∧ (((0 ≤ (am_w (16 + x1)) ∧ (am_w (16 + x1)) < 1112)) ∧ (∀ h4 : am_H, h4 = am_put g1 113 ((am_w (16 + x1)).toNat) r2 → (am_R (am_prog scr) d f_M_named 0 [some (.inr (.inr ((109 : Nat) : Int))), some (.inl 6), some (.inl 0), some (.inl 9)] [] h4 (fun v g5 => ∃ r6 : Int, v = some (.inl r6) ∧ wf g5 ∧ (((0 ≤ (am_w (22 + x1)) ∧ (am_w (22 + x1)) < 1112)) ∧ (∀ h8 : am_H, h8 = am_put g5 113 ((am_w (22 + x1)).toNat) r6 → ((¬ ((h8.2.2.2 109 11) = 0) → (Q none h8)) ∧ ((h8.2.2.2 109 11) = 0 → (∀ h9 : am_H, h9 = am_put h8 113 4 (am_w ((h8.2.2.2 113 4) + 1)) → (Q none h9)))))))))))) : am_R (am_prog scr) (d + 1) f_M_readSleeper 72 [some (.inr (.inr ((109 : Nat) : Int))), some (.inl x1)] [] h Q := by
  have hp : ∀ k, (am_prog scr).1 f_M_readSleeper k = c_M_readSleeper k := fun _ => rfl
  refine am_R.next ((hp 72).trans rfl) rfl ?_
  refine r_getR ((hp 73).trans rfl) (hw.o (i := 109) (by decide) rfl) (hw.r wr_109_4) ?_
  refine am_R.next ((hp 76).trans rfl) rfl ?_
  refine am_R.next ((hp 78).trans rfl) rfl ?_
  refine am_R.next ((hp 79).trans rfl) rfl ?_
  refine am_R.next ((hp 80).trans rfl) rfl ?_
  refine am_R.next ((hp 81).trans rfl) rfl ?_
  refine am_R.next ((hp 82).trans rfl) rfl ?_
  refine r_getR ((hp 83).trans rfl) (hw.o (i := 109) (by decide) rfl) (hw.r wr_109_4) ?_
  refine am_R.next ((hp 86).trans rfl) rfl ?_
  refine r_iald ((hp 87).trans rfl) (hw.a (i := 113) (by decide) rfl (by decide) (by decide)) ?_
  refine am_R.next ((hp 88).trans rfl) rfl ?_
  refine am_R.next ((hp 89).trans rfl) rfl ?_
  refine r_cv (bs := [.inl 0, .inl (am_w ((h.2.2.2 113 1) - 1))]) (st' := [.inl (am_w (16 + x1)), .inr (.inr ((113 : Nat) : Int))]) ((hp 90).trans rfl) (hw.o (i := 109) (by decide) rfl) rfl rfl (Nat.le_of_ble_eq_true rfl) (Nat.le_of_ble_eq_true rfl) (am_R.post H (fun v g1 hq => ?_))
  obtain ⟨r2, rfl, hw, H⟩ := hq
  change am_R _ _ _ _ _ [.inl r2, .inl (am_w (16 + x1)), .inr (.inr ((113 : Nat) : Int))] _ _
  obtain ⟨c3, H⟩ := H
  obtain ⟨h4, eh4⟩ : ∃ z : am_H, z = am_put g1 113 ((am_w (16 + x1)).toNat) r2 := ⟨_, rfl⟩
  have H := H h4 eh4
  refine r_iast ((hp 93).trans rfl) (hw.a (i := 113) (by decide) rfl c3.1 c3.2) ?_
  have hw : wf h4 := by rw [eh4]; exact hw.pa na_113
  change am_R _ _ _ _ _ _ (am_put g1 113 ((am_w (16 + x1)).toNat) r2) _
  rw [← eh4]
  refine am_R.next ((hp 94).trans rfl) rfl ?_
  refine r_getR ((hp 95).trans rfl) (hw.o (i := 109) (by decide) rfl) (hw.r wr_109_4) ?_
  refine am_R.next ((hp 98).trans rfl) rfl ?_
  refine am_R.next ((hp 100).trans rfl) rfl ?_
  refine am_R.next ((hp 101).trans rfl) rfl ?_
  refine am_R.next ((hp 102).trans rfl) rfl ?_
  refine am_R.next ((hp 103).trans rfl) rfl ?_
  refine am_R.next ((hp 105).trans rfl) rfl ?_
  refine am_R.next ((hp 106).trans rfl) rfl ?_
  refine r_cv (bs := [.inl 6, .inl 0, .inl 9]) (st' := [.inl (am_w (22 + x1)), .inr (.inr ((113 : Nat) : Int))]) ((hp 108).trans rfl) (hw.o (i := 109) (by decide) rfl) rfl rfl (Nat.le_of_ble_eq_true rfl) (Nat.le_of_ble_eq_true rfl) (am_R.post H (fun v g5 hq => ?_))
  obtain ⟨r6, rfl, hw, H⟩ := hq
  change am_R _ _ _ _ _ [.inl r6, .inl (am_w (22 + x1)), .inr (.inr ((113 : Nat) : Int))] _ _
  obtain ⟨c7, H⟩ := H
  obtain ⟨h8, eh8⟩ : ∃ z : am_H, z = am_put g5 113 ((am_w (22 + x1)).toNat) r6 := ⟨_, rfl⟩
  have H := H h8 eh8
  refine r_iast ((hp 111).trans rfl) (hw.a (i := 113) (by decide) rfl c7.1 c7.2) ?_
  have hw : wf h8 := by rw [eh8]; exact hw.pa na_113
  change am_R _ _ _ _ _ _ (am_put g5 113 ((am_w (22 + x1)).toNat) r6) _
  rw [← eh8]
  refine am_R.next ((hp 112).trans rfl) rfl ?_
  refine r_getI ((hp 113).trans rfl) (hw.o (i := 109) (by decide) rfl) ?_
  refine r_if ((hp 116).trans rfl) (fun c10 => ?_) (fun c10 => ?_)
  · have H := H.1 c10
    exact am_R.ret ((hp 129).trans rfl) rfl H
  · have H := H.2 (Decidable.not_not.mp c10)
    refine am_R.next ((hp 119).trans rfl) rfl ?_
    refine r_getR ((hp 120).trans rfl) (hw.o (i := 109) (by decide) rfl) (hw.r wr_109_4) ?_
    refine am_R.next ((hp 123).trans rfl) rfl ?_
    refine am_R.next ((hp 124).trans rfl) rfl ?_
    refine r_iald ((hp 125).trans rfl) (hw.a (i := 113) (by decide) rfl (by decide) (by decide)) ?_
    refine am_R.next ((hp 126).trans rfl) rfl ?_
    refine am_R.next ((hp 127).trans rfl) rfl ?_
    obtain ⟨h9, eh9⟩ : ∃ z : am_H, z = am_put h8 113 4 (am_w ((h8.2.2.2 113 4) + 1)) := ⟨_, rfl⟩
    have H := H h9 eh9
    refine r_iast ((hp 128).trans rfl) (hw.a (i := 113) (by decide) rfl (by decide) (by decide)) ?_
    have hw : wf h9 := by rw [eh9]; exact hw.pa na_113
    change am_R _ _ _ _ _ _ (am_put h8 113 4 (am_w ((h8.2.2.2 113 4) + 1))) _
    rw [← eh9]
    exact am_R.ret ((hp 129).trans rfl) rfl H
theorem w_M_readOpens_0 {scr : Nat × (Nat → Int)} {d : Nat} {h : am_H} {Q : Option am_V → am_H → Prop} (hs : am_sc scr) (hw : wf h) (H : am_R (am_prog scr) d f_M_next 0 [some (.inr (.inr ((109 : Nat) : Int))), none] [] h (fun v g1 => v = none ∧ wf g1 ∧ (am_R (am_prog scr) d f_M_takes 0 [some (.inr (.inr ((109 : Nat) : Int))), some (.inl 0), some (.inl (am_w ((g1.2.2.2 113 4) - 1))), none] [] g1 (fun v g2 => ∃ r3 : Int, v = some (.inl r3) ∧ wf g2 ∧ (∀ h4 : am_H, h4 = am_put g2 113 12 r3 → (am_R (am_prog scr) d f_M_named 0 [some (.inr (.inr ((109 : Nat) : Int))), some (.inl 8), some (.inl 0), some (.inl (am_w ((h4.2.2.2 113 2) - 1)))] [] h4 (fun v g5 => ∃ r6 : Int, v = some (.inl r6) ∧ wf g5 ∧ (∀ h7 : am_H, h7 = am_put g5 113 13 r6 → (Q none h7))))))))) : am_R (am_prog scr) (d + 1) f_M_readOpens 0 [some (.inr (.inr ((109 : Nat) : Int)))] [] h Q := by
  have hp : ∀ k, (am_prog scr).1 f_M_readOpens k = c_M_readOpens k := fun _ => rfl
  refine am_R.next ((hp 0).trans rfl) rfl ?_
  refine r_cv (bs := []) (st' := []) ((hp 1).trans rfl) (hw.o (i := 109) (by decide) rfl) rfl rfl (Nat.le_of_ble_eq_true rfl) (Nat.le_of_ble_eq_true rfl) (am_R.post H (fun v g1 hq => ?_))
  obtain ⟨rfl, hw, H⟩ := hq
  change am_R _ _ _ _ _ [] _ _
  refine am_R.next ((hp 4).trans rfl) rfl ?_
  refine r_getR ((hp 5).trans rfl) (hw.o (i := 109) (by decide) rfl) (hw.r wr_109_4) ?_
  refine am_R.next ((hp 8).trans rfl) rfl ?_
  refine am_R.next ((hp 10).trans rfl) rfl ?_
  refine am_R.next ((hp 11).trans rfl) rfl ?_
  refine am_R.next ((hp 12).trans rfl) rfl ?_
  refine r_getR ((hp 13).trans rfl) (hw.o (i := 109) (by decide) rfl) (hw.r wr_109_4) ?_
  refine am_R.next ((hp 16).trans rfl) rfl ?_
  refine r_iald ((hp 17).trans rfl) (hw.a (i := 113) (by decide) rfl (by decide) (by decide)) ?_
  refine am_R.next ((hp 18).trans rfl) rfl ?_
  refine am_R.next ((hp 19).trans rfl) rfl ?_
  refine r_cv (bs := [.inl 0, .inl (am_w ((g1.2.2.2 113 4) - 1))]) (st' := [.inl 12, .inr (.inr ((113 : Nat) : Int))]) ((hp 20).trans rfl) (hw.o (i := 109) (by decide) rfl) rfl rfl (Nat.le_of_ble_eq_true rfl) (Nat.le_of_ble_eq_true rfl) (am_R.post H (fun v g2 hq => ?_))
  obtain ⟨r3, rfl, hw, H⟩ := hq
  change am_R _ _ _ _ _ [.inl r3, .inl 12, .inr (.inr ((113 : Nat) : Int))] _ _
  obtain ⟨h4, eh4⟩ : ∃ z : am_H, z = am_put g2 113 12 r3 := ⟨_, rfl⟩
  have H := H h4 eh4
  refine r_iast ((hp 23).trans rfl) (hw.a (i := 113) (by decide) rfl (by decide) (by decide)) ?_
  have hw : wf h4 := by rw [eh4]; exact hw.pa na_113
  change am_R _ _ _ _ _ _ (am_put g2 113 12 r3) _
  rw [← eh4]
  refine am_R.next ((hp 24).trans rfl) rfl ?_
  refine r_getR ((hp 25).trans rfl) (hw.o (i := 109) (by decide) rfl) (hw.r wr_109_4) ?_
  refine am_R.next ((hp 28).trans rfl) rfl ?_
  refine am_R.next ((hp 30).trans rfl) rfl ?_
  refine am_R.next ((hp 31).trans rfl) rfl ?_
  refine am_R.next ((hp 33).trans rfl) rfl ?_
  refine am_R.next ((hp 34).trans rfl) rfl ?_
  refine r_getR ((hp 35).trans rfl) (hw.o (i := 109) (by decide) rfl) (hw.r wr_109_4) ?_
  refine am_R.next ((hp 38).trans rfl) rfl ?_
  refine r_iald ((hp 39).trans rfl) (hw.a (i := 113) (by decide) rfl (by decide) (by decide)) ?_
  refine am_R.next ((hp 40).trans rfl) rfl ?_
  refine am_R.next ((hp 41).trans rfl) rfl ?_
  refine r_cv (bs := [.inl 8, .inl 0, .inl (am_w ((h4.2.2.2 113 2) - 1))]) (st' := [.inl 13, .inr (.inr ((113 : Nat) : Int))]) ((hp 42).trans rfl) (hw.o (i := 109) (by decide) rfl) rfl rfl (Nat.le_of_ble_eq_true rfl) (Nat.le_of_ble_eq_true rfl) (am_R.post H (fun v g5 hq => ?_))
  obtain ⟨r6, rfl, hw, H⟩ := hq
  change am_R _ _ _ _ _ [.inl r6, .inl 13, .inr (.inr ((113 : Nat) : Int))] _ _
  obtain ⟨h7, eh7⟩ : ∃ z : am_H, z = am_put g5 113 13 r6 := ⟨_, rfl⟩
  have H := H h7 eh7
  refine r_iast ((hp 45).trans rfl) (hw.a (i := 113) (by decide) rfl (by decide) (by decide)) ?_
  have hw : wf h7 := by rw [eh7]; exact hw.pa na_113
  change am_R _ _ _ _ _ _ (am_put g5 113 13 r6) _
  rw [← eh7]
  exact am_R.ret ((hp 46).trans rfl) rfl H
theorem w_M_readLaw_0 {scr : Nat × (Nat → Int)} {d : Nat} {h : am_H} {Q : Option am_V → am_H → Prop} {x1 : Int} (hs : am_sc scr) (hw : wf h) (H : am_R (am_prog scr) d f_M_next 0 [some (.inr (.inr ((109 : Nat) : Int))), none] [] h (fun v g1 => v = none ∧ wf g1 ∧ (am_R (am_prog scr) d f_M_eats 0 [some (.inr (.inr ((109 : Nat) : Int))), some (.inl 31)] [] g1 (fun v g2 => ∃ r3 : Int, v = some (.inl r3) ∧ wf g2 ∧ ((¬ (r3 = 0) → (am_R (am_prog scr) (d + 1) f_M_readLaw 18 [some (.inr (.inr ((109 : Nat) : Int))), some (.inl x1), none] [] g2 Q)) ∧ (r3 = 0 → (am_R (am_prog scr) d f_M_fails 0 [some (.inr (.inr ((109 : Nat) : Int))), some (.inl 2)] [] g2 (fun v g4 => v = none ∧ wf g4 ∧ (am_R (am_prog scr) (d + 1) f_M_readLaw 18 [some (.inr (.inr ((109 : Nat) : Int))), some (.inl x1), none] [] g4 Q))))))))) : am_R (am_prog scr) (d + 1) f_M_readLaw 0 [some (.inr (.inr ((109 : Nat) : Int))), some (.inl x1), none] [] h Q := by
  have hp : ∀ k, (am_prog scr).1 f_M_readLaw k = c_M_readLaw k := fun _ => rfl
  refine am_R.next ((hp 0).trans rfl) rfl ?_
  refine r_cv (bs := []) (st' := []) ((hp 1).trans rfl) (hw.o (i := 109) (by decide) rfl) rfl rfl (Nat.le_of_ble_eq_true rfl) (Nat.le_of_ble_eq_true rfl) (am_R.post H (fun v g1 hq => ?_))
  obtain ⟨rfl, hw, H⟩ := hq
  change am_R _ _ _ _ _ [] _ _
  refine am_R.next ((hp 4).trans rfl) rfl ?_
  refine am_R.next ((hp 5).trans rfl) rfl ?_
  refine r_cv (bs := [.inl 31]) (st' := []) ((hp 7).trans rfl) (hw.o (i := 109) (by decide) rfl) rfl rfl (Nat.le_of_ble_eq_true rfl) (Nat.le_of_ble_eq_true rfl) (am_R.post H (fun v g2 hq => ?_))
  obtain ⟨r3, rfl, hw, H⟩ := hq
  change am_R _ _ _ _ _ [.inl r3] _ _
  refine r_if ((hp 10).trans rfl) (fun c5 => ?_) (fun c5 => ?_)
  · have H := H.1 c5
    exact H
  · have H := H.2 (Decidable.not_not.mp c5)
    refine am_R.next ((hp 13).trans rfl) rfl ?_
    refine am_R.next ((hp 14).trans rfl) rfl ?_
    refine r_cv (bs := [.inl 2]) (st' := []) ((hp 15).trans rfl) (hw.o (i := 109) (by decide) rfl) rfl rfl (Nat.le_of_ble_eq_true rfl) (Nat.le_of_ble_eq_true rfl) (am_R.post H (fun v g4 hq => ?_))
    obtain ⟨rfl, hw, H⟩ := hq
    change am_R _ _ _ _ _ [] _ _
    exact H
theorem w_M_readLaw_18 {scr : Nat × (Nat → Int)} {d : Nat} {h : am_H} {Q : Option am_V → am_H → Prop} {x1 : Int} (hs : am_sc scr) (hw : wf h) (H : ∀ y1 : Int, y1 = h.2.2.2 113 211 → (am_R (am_prog scr) d f_M_readSum 0 [some (.inr (.inr ((109 : Nat) : Int))), some (.inl 0), none] [] h (fun v g2 => v = none ∧ wf g2 ∧ (((g2.2.2.2 109 11) = 0 → (((0 ≤ (am_w (6 + x1)) ∧ (am_w (6 + x1)) < 1112)) ∧ (∀ h4 : am_H, h4 = am_put g2 113 ((am_w (6 + x1)).toNat) 1 → (((0 ≤ (am_w (8 + x1)) ∧ (am_w (8 + x1)) < 1112)) ∧ (∀ h6 : am_H, h6 = am_put h4 113 ((am_w (8 + x1)).toNat) y1 → (((0 ≤ (am_w (10 + x1)) ∧ (am_w (10 + x1)) < 1112)) ∧ (∀ h8 : am_H, h8 = am_put h6 113 ((am_w (10 + x1)).toNat) (am_w ((h6.2.2.2 113 211) - y1)) → (Q none h8)))))))) ∧ (¬ ((g2.2.2.2 109 11) = 0) → (Q none g2)))))) : am_R (am_prog scr) (d + 1) f_M_readLaw 18 [some (.inr (.inr ((109 : Nat) : Int))), some (.inl x1), none] [] h Q := by
  have hp : ∀ k, (am_prog scr).1 f_M_readLaw k = c_M_readLaw k := fun _ => rfl
  refine am_R.next ((hp 18).trans rfl) rfl ?_
  refine r_getR ((hp 19).trans rfl) (hw.o (i := 109) (by decide) rfl) (hw.r wr_109_4) ?_
  refine am_R.next ((hp 22).trans rfl) rfl ?_
  refine r_iald ((hp 25).trans rfl) (hw.a (i := 113) (by decide) rfl (by decide) (by decide)) ?_
  obtain ⟨y1, ey1⟩ : ∃ z : Int, z = h.2.2.2 113 211 := ⟨_, rfl⟩
  have H := H y1 ey1
  refine am_R.next (lv' := [some (.inr (.inr ((109 : Nat) : Int))), some (.inl x1), some (.inl y1)]) (st' := []) (h' := h) (pc' := 27) ((hp 26).trans rfl) (by rw [ey1]; rfl) ?_
  refine am_R.next ((hp 27).trans rfl) rfl ?_
  refine am_R.next ((hp 28).trans rfl) rfl ?_
  refine r_cv (bs := [.inl 0]) (st' := []) ((hp 29).trans rfl) (hw.o (i := 109) (by decide) rfl) rfl rfl (Nat.le_of_ble_eq_true rfl) (Nat.le_of_ble_eq_true rfl) (am_R.post H (fun v g2 hq => ?_))
  obtain ⟨rfl, hw, H⟩ := hq
  change am_R _ _ _ _ _ [] _ _
  refine am_R.next ((hp 32).trans rfl) rfl ?_
  refine r_getI ((hp 33).trans rfl) (hw.o (i := 109) (by decide) rfl) ?_
  refine r_if ((hp 36).trans rfl) (fun c9 => ?_) (fun c9 => ?_)
  · have H := H.1 c9
    refine am_R.next ((hp 40).trans rfl) rfl ?_
    refine r_getR ((hp 41).trans rfl) (hw.o (i := 109) (by decide) rfl) (hw.r wr_109_4) ?_
    refine am_R.next ((hp 44).trans rfl) rfl ?_
    refine am_R.next ((hp 46).trans rfl) rfl ?_
    refine am_R.next ((hp 47).trans rfl) rfl ?_
    refine am_R.next ((hp 48).trans rfl) rfl ?_
    obtain ⟨c3, H⟩ := H
    obtain ⟨h4, eh4⟩ : ∃ z : am_H, z = am_put g2 113 ((am_w (6 + x1)).toNat) 1 := ⟨_, rfl⟩
    have H := H h4 eh4
    refine r_iast ((hp 49).trans rfl) (hw.a (i := 113) (by decide) rfl c3.1 c3.2) ?_
    have hw : wf h4 := by rw [eh4]; exact hw.pa na_113
    change am_R _ _ _ _ _ _ (am_put g2 113 ((am_w (6 + x1)).toNat) 1) _
    rw [← eh4]
    refine am_R.next ((hp 50).trans rfl) rfl ?_
    refine r_getR ((hp 51).trans rfl) (hw.o (i := 109) (by decide) rfl) (hw.r wr_109_4) ?_
    refine am_R.next ((hp 54).trans rfl) rfl ?_
    refine am_R.next ((hp 56).trans rfl) rfl ?_
    refine am_R.next ((hp 57).trans rfl) rfl ?_
    refine am_R.next ((hp 58).trans rfl) rfl ?_
    obtain ⟨c5, H⟩ := H
    obtain ⟨h6, eh6⟩ : ∃ z : am_H, z = am_put h4 113 ((am_w (8 + x1)).toNat) y1 := ⟨_, rfl⟩
    have H := H h6 eh6
    refine r_iast ((hp 59).trans rfl) (hw.a (i := 113) (by decide) rfl c5.1 c5.2) ?_
    have hw : wf h6 := by rw [eh6]; exact hw.pa na_113
    change am_R _ _ _ _ _ _ (am_put h4 113 ((am_w (8 + x1)).toNat) y1) _
    rw [← eh6]
    refine am_R.next ((hp 60).trans rfl) rfl ?_
    refine r_getR ((hp 61).trans rfl) (hw.o (i := 109) (by decide) rfl) (hw.r wr_109_4) ?_
    refine am_R.next ((hp 64).trans rfl) rfl ?_
    refine am_R.next ((hp 66).trans rfl) rfl ?_
    refine am_R.next ((hp 67).trans rfl) rfl ?_
    refine am_R.next ((hp 68).trans rfl) rfl ?_
    refine r_getR ((hp 69).trans rfl) (hw.o (i := 109) (by decide) rfl) (hw.r wr_109_4) ?_
    refine am_R.next ((hp 72).trans rfl) rfl ?_
    refine r_iald ((hp 75).trans rfl) (hw.a (i := 113) (by decide) rfl (by decide) (by decide)) ?_
    refine am_R.next ((hp 76).trans rfl) rfl ?_
    refine am_R.next ((hp 77).trans rfl) rfl ?_
    obtain ⟨c7, H⟩ := H
    obtain ⟨h8, eh8⟩ : ∃ z : am_H, z = am_put h6 113 ((am_w (10 + x1)).toNat) (am_w ((h6.2.2.2 113 211) - y1)) := ⟨_, rfl⟩
    have H := H h8 eh8
    refine r_iast ((hp 78).trans rfl) (hw.a (i := 113) (by decide) rfl c7.1 c7.2) ?_
    have hw : wf h8 := by rw [eh8]; exact hw.pa na_113
    change am_R _ _ _ _ _ _ (am_put h6 113 ((am_w (10 + x1)).toNat) (am_w ((h6.2.2.2 113 211) - y1))) _
    rw [← eh8]
    exact am_R.ret ((hp 79).trans rfl) rfl H
  · have H := H.2 c9
    exact am_R.ret ((hp 39).trans rfl) rfl H
theorem w_M_readLine_0 {scr : Nat × (Nat → Int)} {d : Nat} {h : am_H} {Q : Option am_V → am_H → Prop} (hs : am_sc scr) (hw : wf h) (H : ((h.2.2.2 109 11) = 0 → (am_R (am_prog scr) d f_M_is 0 [some (.inr (.inr ((109 : Nat) : Int))), some (.inl 4)] [] h (fun v g1 => ∃ r2 : Int, v = some (.inl r2) ∧ wf g1 ∧ ((r2 = 0 → (am_R (am_prog scr) d f_M_is 0 [some (.inr (.inr ((109 : Nat) : Int))), some (.inl 7)] [] g1 (fun v g3 => ∃ r4 : Int, v = some (.inl r4) ∧ wf g3 ∧ ((r4 = 0 → (am_R (am_prog scr) d f_M_eats 0 [some (.inr (.inr ((109 : Nat) : Int))), some (.inl 9)] [] g3 (fun v g5 => ∃ r6 : Int, v = some (.inl r6) ∧ wf g5 ∧ ((r6 = 0 → (am_R (am_prog scr) d f_M_eats 0 [some (.inr (.inr ((109 : Nat) : Int))), some (.inl 10)] [] g5 (fun v g7 => ∃ r8 : Int, v = some (.inl r8) ∧ wf g7 ∧ ((r8 = 0 → (am_R (am_prog scr) d f_M_is 0 [some (.inr (.inr ((109 : Nat) : Int))), some (.inl 11)] [] g7 (fun v g9 => ∃ r10 : Int, v = some (.inl r10) ∧ wf g9 ∧ ((¬ (r10 = 0) → (am_R (am_prog scr) (d + 1) f_M_readLine 114 [some (.inr (.inr ((109 : Nat) : Int)))] [] g9 Q)) ∧ (r10 = 0 → (am_R (am_prog scr) d f_M_is 0 [some (.inr (.inr ((109 : Nat) : Int))), some (.inl 12)] [] g9 (fun v g11 => ∃ r12 : Int, v = some (.inl r12) ∧ wf g11 ∧ ((r12 = 0 → (am_R (am_prog scr) d f_M_fails 0 [some (.inr (.inr ((109 : Nat) : Int))), some (.inl 2)] [] g11 (fun v g13 => v = none ∧ wf g13 ∧ (Q none g13)))) ∧ (¬ (r12 = 0) → (am_R (am_prog scr) (d + 1) f_M_readLine 114 [some (.inr (.inr ((109 : Nat) : Int)))] [] g11 Q)))))))))) ∧ (¬ (r8 = 0) → (am_R (am_prog scr) d f_M_takes 0 [some (.inr (.inr ((109 : Nat) : Int))), some (.inl 0), some (.inl 9), none] [] g7 (fun v g16 => ∃ r17 : Int, v = some (.inl r17) ∧ wf g16 ∧ (∀ h18 : am_H, h18 = am_put g16 113 28 r17 → (Q none h18))))))))) ∧ (¬ (r6 = 0) → (am_R (am_prog scr) d f_M_takes 0 [some (.inr (.inr ((109 : Nat) : Int))), some (.inl 0), some (.inl (am_w ((g5.2.2.2 113 2) - 1))), none] [] g5 (fun v g20 => ∃ r21 : Int, v = some (.inl r21) ∧ wf g20 ∧ (∀ h22 : am_H, h22 = am_put g20 113 5 r21 → (Q none h22))))))))) ∧ (¬ (r4 = 0) → (am_R (am_prog scr) d f_M_readOpens 0 [some (.inr (.inr ((109 : Nat) : Int)))] [] g3 (fun v g24 => v = none ∧ wf g24 ∧ (Q none g24)))))))) ∧ (¬ (r2 = 0) → (am_R (am_prog scr) d f_M_readSleeper 0 [some (.inr (.inr ((109 : Nat) : Int))), none] [] g1 (fun v g26 => v = none ∧ wf g26 ∧ (Q none g26)))))))) ∧ (¬ ((h.2.2.2 109 11) = 0) → (Q none h))) : am_R (am_prog scr) (d + 1) f_M_readLine 0 [some (.inr (.inr ((109 : Nat) : Int)))] [] h Q := by
  have hp : ∀ k, (am_prog scr).1 f_M_readLine k = c_M_readLine k := fun _ => rfl
  refine am_R.next ((hp 0).trans rfl) rfl ?_
  refine r_getI ((hp 1).trans rfl) (hw.o (i := 109) (by decide) rfl) ?_
  refine r_if ((hp 4).trans rfl) (fun c28 => ?_) (fun c28 => ?_)
  · have H := H.1 c28
    refine am_R.next ((hp 8).trans rfl) rfl ?_
    refine am_R.next ((hp 9).trans rfl) rfl ?_
    refine r_cv (bs := [.inl 4]) (st' := []) ((hp 10).trans rfl) (hw.o (i := 109) (by decide) rfl) rfl rfl (Nat.le_of_ble_eq_true rfl) (Nat.le_of_ble_eq_true rfl) (am_R.post H (fun v g1 hq => ?_))
    obtain ⟨r2, rfl, hw, H⟩ := hq
    change am_R _ _ _ _ _ [.inl r2] _ _
    refine r_if ((hp 13).trans rfl) (fun c27 => ?_) (fun c27 => ?_)
    · have H := H.1 c27
      refine am_R.next ((hp 23).trans rfl) rfl ?_
      refine am_R.next ((hp 24).trans rfl) rfl ?_
      refine r_cv (bs := [.inl 7]) (st' := []) ((hp 26).trans rfl) (hw.o (i := 109) (by decide) rfl) rfl rfl (Nat.le_of_ble_eq_true rfl) (Nat.le_of_ble_eq_true rfl) (am_R.post H (fun v g3 hq => ?_))
      obtain ⟨r4, rfl, hw, H⟩ := hq
      change am_R _ _ _ _ _ [.inl r4] _ _
      refine r_if ((hp 29).trans rfl) (fun c25 => ?_) (fun c25 => ?_)
      · have H := H.1 c25
        refine am_R.next ((hp 39).trans rfl) rfl ?_
        refine am_R.next ((hp 40).trans rfl) rfl ?_
        refine r_cv (bs := [.inl 9]) (st' := []) ((hp 42).trans rfl) (hw.o (i := 109) (by decide) rfl) rfl rfl (Nat.le_of_ble_eq_true rfl) (Nat.le_of_ble_eq_true rfl) (am_R.post H (fun v g5 hq => ?_))
        obtain ⟨r6, rfl, hw, H⟩ := hq
        change am_R _ _ _ _ _ [.inl r6] _ _
        refine r_if ((hp 45).trans rfl) (fun c23 => ?_) (fun c23 => ?_)
        · have H := H.1 c23
          refine am_R.next ((hp 70).trans rfl) rfl ?_
          refine am_R.next ((hp 71).trans rfl) rfl ?_
          refine r_cv (bs := [.inl 10]) (st' := []) ((hp 73).trans rfl) (hw.o (i := 109) (by decide) rfl) rfl rfl (Nat.le_of_ble_eq_true rfl) (Nat.le_of_ble_eq_true rfl) (am_R.post H (fun v g7 hq => ?_))
          obtain ⟨r8, rfl, hw, H⟩ := hq
          change am_R _ _ _ _ _ [.inl r8] _ _
          refine r_if ((hp 76).trans rfl) (fun c19 => ?_) (fun c19 => ?_)
          · have H := H.1 c19
            refine am_R.next ((hp 96).trans rfl) rfl ?_
            refine am_R.next ((hp 97).trans rfl) rfl ?_
            refine r_cv (bs := [.inl 11]) (st' := []) ((hp 99).trans rfl) (hw.o (i := 109) (by decide) rfl) rfl rfl (Nat.le_of_ble_eq_true rfl) (Nat.le_of_ble_eq_true rfl) (am_R.post H (fun v g9 hq => ?_))
            obtain ⟨r10, rfl, hw, H⟩ := hq
            change am_R _ _ _ _ _ [.inl r10] _ _
            refine r_if ((hp 102).trans rfl) (fun c15 => ?_) (fun c15 => ?_)
            · have H := H.1 c15
              exact H
            · have H := H.2 (Decidable.not_not.mp c15)
              refine am_R.next ((hp 105).trans rfl) rfl ?_
              refine am_R.next ((hp 106).trans rfl) rfl ?_
              refine r_cv (bs := [.inl 12]) (st' := []) ((hp 108).trans rfl) (hw.o (i := 109) (by decide) rfl) rfl rfl (Nat.le_of_ble_eq_true rfl) (Nat.le_of_ble_eq_true rfl) (am_R.post H (fun v g11 hq => ?_))
              obtain ⟨r12, rfl, hw, H⟩ := hq
              change am_R _ _ _ _ _ [.inl r12] _ _
              refine r_if ((hp 111).trans rfl) (fun c14 => ?_) (fun c14 => ?_)
              · have H := H.1 c14
                refine am_R.next ((hp 128).trans rfl) rfl ?_
                refine am_R.next ((hp 129).trans rfl) rfl ?_
                refine r_cv (bs := [.inl 2]) (st' := []) ((hp 130).trans rfl) (hw.o (i := 109) (by decide) rfl) rfl rfl (Nat.le_of_ble_eq_true rfl) (Nat.le_of_ble_eq_true rfl) (am_R.post H (fun v g13 hq => ?_))
                obtain ⟨rfl, hw, H⟩ := hq
                change am_R _ _ _ _ _ [] _ _
                exact am_R.ret ((hp 133).trans rfl) rfl H
              · have H := H.2 c14
                exact H
          · have H := H.2 c19
            refine am_R.next ((hp 79).trans rfl) rfl ?_
            refine r_getR ((hp 80).trans rfl) (hw.o (i := 109) (by decide) rfl) (hw.r wr_109_4) ?_
            refine am_R.next ((hp 83).trans rfl) rfl ?_
            refine am_R.next ((hp 85).trans rfl) rfl ?_
            refine am_R.next ((hp 86).trans rfl) rfl ?_
            refine am_R.next ((hp 87).trans rfl) rfl ?_
            refine r_cv (bs := [.inl 0, .inl 9]) (st' := [.inl 28, .inr (.inr ((113 : Nat) : Int))]) ((hp 89).trans rfl) (hw.o (i := 109) (by decide) rfl) rfl rfl (Nat.le_of_ble_eq_true rfl) (Nat.le_of_ble_eq_true rfl) (am_R.post H (fun v g16 hq => ?_))
            obtain ⟨r17, rfl, hw, H⟩ := hq
            change am_R _ _ _ _ _ [.inl r17, .inl 28, .inr (.inr ((113 : Nat) : Int))] _ _
            obtain ⟨h18, eh18⟩ : ∃ z : am_H, z = am_put g16 113 28 r17 := ⟨_, rfl⟩
            have H := H h18 eh18
            refine r_iast ((hp 92).trans rfl) (hw.a (i := 113) (by decide) rfl (by decide) (by decide)) ?_
            have hw : wf h18 := by rw [eh18]; exact hw.pa na_113
            change am_R _ _ _ _ _ _ (am_put g16 113 28 r17) _
            rw [← eh18]
            refine am_R.next ((hp 93).trans rfl) rfl ?_
            exact am_R.ret ((hp 133).trans rfl) rfl H
        · have H := H.2 c23
          refine am_R.next ((hp 48).trans rfl) rfl ?_
          refine r_getR ((hp 49).trans rfl) (hw.o (i := 109) (by decide) rfl) (hw.r wr_109_4) ?_
          refine am_R.next ((hp 52).trans rfl) rfl ?_
          refine am_R.next ((hp 53).trans rfl) rfl ?_
          refine am_R.next ((hp 54).trans rfl) rfl ?_
          refine am_R.next ((hp 55).trans rfl) rfl ?_
          refine r_getR ((hp 56).trans rfl) (hw.o (i := 109) (by decide) rfl) (hw.r wr_109_4) ?_
          refine am_R.next ((hp 59).trans rfl) rfl ?_
          refine r_iald ((hp 60).trans rfl) (hw.a (i := 113) (by decide) rfl (by decide) (by decide)) ?_
          refine am_R.next ((hp 61).trans rfl) rfl ?_
          refine am_R.next ((hp 62).trans rfl) rfl ?_
          refine r_cv (bs := [.inl 0, .inl (am_w ((g5.2.2.2 113 2) - 1))]) (st' := [.inl 5, .inr (.inr ((113 : Nat) : Int))]) ((hp 63).trans rfl) (hw.o (i := 109) (by decide) rfl) rfl rfl (Nat.le_of_ble_eq_true rfl) (Nat.le_of_ble_eq_true rfl) (am_R.post H (fun v g20 hq => ?_))
          obtain ⟨r21, rfl, hw, H⟩ := hq
          change am_R _ _ _ _ _ [.inl r21, .inl 5, .inr (.inr ((113 : Nat) : Int))] _ _
          obtain ⟨h22, eh22⟩ : ∃ z : am_H, z = am_put g20 113 5 r21 := ⟨_, rfl⟩
          have H := H h22 eh22
          refine r_iast ((hp 66).trans rfl) (hw.a (i := 113) (by decide) rfl (by decide) (by decide)) ?_
          have hw : wf h22 := by rw [eh22]; exact hw.pa na_113
          change am_R _ _ _ _ _ _ (am_put g20 113 5 r21) _
          rw [← eh22]
          refine am_R.next ((hp 67).trans rfl) rfl ?_
          exact am_R.ret ((hp 133).trans rfl) rfl H
      · have H := H.2 c25
        refine am_R.next ((hp 32).trans rfl) rfl ?_
        refine r_cv (bs := []) (st' := []) ((hp 33).trans rfl) (hw.o (i := 109) (by decide) rfl) rfl rfl (Nat.le_of_ble_eq_true rfl) (Nat.le_of_ble_eq_true rfl) (am_R.post H (fun v g24 hq => ?_))
        obtain ⟨rfl, hw, H⟩ := hq
        change am_R _ _ _ _ _ [] _ _
        refine am_R.next ((hp 36).trans rfl) rfl ?_
        exact am_R.ret ((hp 133).trans rfl) rfl H
    · have H := H.2 c27
      refine am_R.next ((hp 16).trans rfl) rfl ?_
      refine r_cv (bs := []) (st' := []) ((hp 17).trans rfl) (hw.o (i := 109) (by decide) rfl) rfl rfl (Nat.le_of_ble_eq_true rfl) (Nat.le_of_ble_eq_true rfl) (am_R.post H (fun v g26 hq => ?_))
      obtain ⟨rfl, hw, H⟩ := hq
      change am_R _ _ _ _ _ [] _ _
      refine am_R.next ((hp 20).trans rfl) rfl ?_
      exact am_R.ret ((hp 133).trans rfl) rfl H
  · have H := H.2 c28
    exact am_R.ret ((hp 7).trans rfl) rfl H
theorem w_M_readLine_114 {scr : Nat × (Nat → Int)} {d : Nat} {h : am_H} {Q : Option am_V → am_H → Prop} (hs : am_sc scr) (hw : wf h) (H : am_R (am_prog scr) d f_M_readLaw 0 [some (.inr (.inr ((109 : Nat) : Int))), some (.inl (am_w ((h.2.2.2 109 9) - 11))), none] [] h (fun v g1 => v = none ∧ wf g1 ∧ (Q none g1))) : am_R (am_prog scr) (d + 1) f_M_readLine 114 [some (.inr (.inr ((109 : Nat) : Int)))] [] h Q := by
  have hp : ∀ k, (am_prog scr).1 f_M_readLine k = c_M_readLine k := fun _ => rfl
  refine am_R.next ((hp 114).trans rfl) rfl ?_
  refine am_R.next ((hp 115).trans rfl) rfl ?_
  refine r_getI ((hp 116).trans rfl) (hw.o (i := 109) (by decide) rfl) ?_
  refine am_R.next ((hp 119).trans rfl) rfl ?_
  refine am_R.next ((hp 121).trans rfl) rfl ?_
  refine r_cv (bs := [.inl (am_w ((h.2.2.2 109 9) - 11))]) (st' := []) ((hp 122).trans rfl) (hw.o (i := 109) (by decide) rfl) rfl rfl (Nat.le_of_ble_eq_true rfl) (Nat.le_of_ble_eq_true rfl) (am_R.post H (fun v g1 hq => ?_))
  obtain ⟨rfl, hw, H⟩ := hq
  change am_R _ _ _ _ _ [] _ _
  refine am_R.next ((hp 125).trans rfl) rfl ?_
  exact am_R.ret ((hp 133).trans rfl) rfl H
theorem w_M_closes_0 {scr : Nat × (Nat → Int)} {d : Nat} {h : am_H} {Q : Option am_V → am_H → Prop} (hs : am_sc scr) (hw : wf h) (H : am_R (am_prog scr) d f_M_eats 0 [some (.inr (.inr ((109 : Nat) : Int))), some (.inl 30)] [] h (fun v g1 => ∃ r2 : Int, v = some (.inl r2) ∧ wf g1 ∧ ((¬ (r2 = 0) → (∀ h3 : am_H, h3 = am_put g1 113 0 (am_w ((g1.2.2.2 113 0) + 1)) → (Q none h3))) ∧ (r2 = 0 → (am_R (am_prog scr) d f_M_fails 0 [some (.inr (.inr ((109 : Nat) : Int))), some (.inl 2)] [] g1 (fun v g4 => v = none ∧ wf g4 ∧ (∀ h5 : am_H, h5 = am_put g4 113 0 (am_w ((g4.2.2.2 113 0) + 1)) → (Q none h5)))))))) : am_R (am_prog scr) (d + 1) f_M_closes 0 [some (.inr (.inr ((109 : Nat) : Int)))] [] h Q := by
  have hp : ∀ k, (am_prog scr).1 f_M_closes k = c_M_closes k := fun _ => rfl
  refine am_R.next ((hp 0).trans rfl) rfl ?_
  refine am_R.next ((hp 1).trans rfl) rfl ?_
  refine r_cv (bs := [.inl 30]) (st' := []) ((hp 3).trans rfl) (hw.o (i := 109) (by decide) rfl) rfl rfl (Nat.le_of_ble_eq_true rfl) (Nat.le_of_ble_eq_true rfl) (am_R.post H (fun v g1 hq => ?_))
  obtain ⟨r2, rfl, hw, H⟩ := hq
  change am_R _ _ _ _ _ [.inl r2] _ _
  refine r_if ((hp 6).trans rfl) (fun c6 => ?_) (fun c6 => ?_)
  · have H := H.1 c6
    refine am_R.next ((hp 14).trans rfl) rfl ?_
    refine r_getR ((hp 15).trans rfl) (hw.o (i := 109) (by decide) rfl) (hw.r wr_109_4) ?_
    refine am_R.next ((hp 18).trans rfl) rfl ?_
    refine am_R.next ((hp 19).trans rfl) rfl ?_
    refine r_iald ((hp 20).trans rfl) (hw.a (i := 113) (by decide) rfl (by decide) (by decide)) ?_
    refine am_R.next ((hp 21).trans rfl) rfl ?_
    refine am_R.next ((hp 22).trans rfl) rfl ?_
    obtain ⟨h3, eh3⟩ : ∃ z : am_H, z = am_put g1 113 0 (am_w ((g1.2.2.2 113 0) + 1)) := ⟨_, rfl⟩
    have H := H h3 eh3
    refine r_iast ((hp 23).trans rfl) (hw.a (i := 113) (by decide) rfl (by decide) (by decide)) ?_
    have hw : wf h3 := by rw [eh3]; exact hw.pa na_113
    change am_R _ _ _ _ _ _ (am_put g1 113 0 (am_w ((g1.2.2.2 113 0) + 1))) _
    rw [← eh3]
    exact am_R.ret ((hp 24).trans rfl) rfl H
  · have H := H.2 (Decidable.not_not.mp c6)
    refine am_R.next ((hp 9).trans rfl) rfl ?_
    refine am_R.next ((hp 10).trans rfl) rfl ?_
    refine r_cv (bs := [.inl 2]) (st' := []) ((hp 11).trans rfl) (hw.o (i := 109) (by decide) rfl) rfl rfl (Nat.le_of_ble_eq_true rfl) (Nat.le_of_ble_eq_true rfl) (am_R.post H (fun v g4 hq => ?_))
    obtain ⟨rfl, hw, H⟩ := hq
    change am_R _ _ _ _ _ [] _ _
    refine am_R.next ((hp 14).trans rfl) rfl ?_
    refine r_getR ((hp 15).trans rfl) (hw.o (i := 109) (by decide) rfl) (hw.r wr_109_4) ?_
    refine am_R.next ((hp 18).trans rfl) rfl ?_
    refine am_R.next ((hp 19).trans rfl) rfl ?_
    refine r_iald ((hp 20).trans rfl) (hw.a (i := 113) (by decide) rfl (by decide) (by decide)) ?_
    refine am_R.next ((hp 21).trans rfl) rfl ?_
    refine am_R.next ((hp 22).trans rfl) rfl ?_
    obtain ⟨h5, eh5⟩ : ∃ z : am_H, z = am_put g4 113 0 (am_w ((g4.2.2.2 113 0) + 1)) := ⟨_, rfl⟩
    have H := H h5 eh5
    refine r_iast ((hp 23).trans rfl) (hw.a (i := 113) (by decide) rfl (by decide) (by decide)) ?_
    have hw : wf h5 := by rw [eh5]; exact hw.pa na_113
    change am_R _ _ _ _ _ _ (am_put g4 113 0 (am_w ((g4.2.2.2 113 0) + 1))) _
    rw [← eh5]
    exact am_R.ret ((hp 24).trans rfl) rfl H
theorem w_M_house_0 {scr : Nat × (Nat → Int)} {d : Nat} {h : am_H} {Q : Option am_V → am_H → Prop} {x1 : Int} (hs : am_sc scr) (hw : wf h) (H : ∀ h1 : am_H, h1 = am_put h 109 0 0 → (am_R (am_prog scr) d f_M_within 0 [some (.inr (.inl x1)), none, some (.inr (.inl 0)), none, some (.inr (.inl (h1.2.2.2 109 5))), none] [] h1 (fun v g2 => ∃ r3 : Int, v = some (.inl r3) ∧ wf g2 ∧ ((¬ (r3 = 0) → (∀ h4 : am_H, h4 = am_put g2 109 8 x1 → (∀ h5 : am_H, h5 = am_put h4 109 5 0 → (∀ h6 : am_H, h6 = am_put h5 109 7 0 → (∀ h7 : am_H, h7 = am_put h6 109 11 0 → (am_R (am_prog scr) d f_M_plain 0 [some (.inr (.inr ((113 : Nat) : Int))), none] [] h7 (fun v g8 => v = none ∧ wf g8 ∧ (am_R (am_prog scr) d f_M_next 0 [some (.inr (.inr ((109 : Nat) : Int))), none] [] g8 (fun v g9 => v = none ∧ wf g9 ∧ (am_R (am_prog scr) d f_M_eats 0 [some (.inr (.inr ((109 : Nat) : Int))), some (.inl 0)] [] g9 (fun v g10 => ∃ r11 : Int, v = some (.inl r11) ∧ wf g10 ∧ ((¬ (r11 = 0) → (am_R (am_prog scr) (d + 1) f_M_house 66 [some (.inr (.inr ((109 : Nat) : Int))), some (.inl x1), none] [] g10 Q)) ∧ (r11 = 0 → (am_R (am_prog scr) d f_M_fails 0 [some (.inr (.inr ((109 : Nat) : Int))), some (.inl 2)] [] g10 (fun v g12 => v = none ∧ wf g12 ∧ (am_R (am_prog scr) (d + 1) f_M_house 66 [some (.inr (.inr ((109 : Nat) : Int))), some (.inl x1), none] [] g12 Q)))))))))))))))) ∧ (r3 = 0 → (Q (some (.inl (-3))) g2)))))) : am_R (am_prog scr) (d + 1) f_M_house 0 [some (.inr (.inr ((109 : Nat) : Int))), some (.inl x1), none] [] h Q := by
  have hp : ∀ k, (am_prog scr).1 f_M_house k = c_M_house k := fun _ => rfl
  refine am_R.next ((hp 0).trans rfl) rfl ?_
  refine am_R.next ((hp 1).trans rfl) rfl ?_
  obtain ⟨h1, eh1⟩ : ∃ z : am_H, z = am_put h 109 0 0 := ⟨_, rfl⟩
  have H := H h1 eh1
  refine r_putI ((hp 2).trans rfl) (hw.o (i := 109) (by decide) rfl) ?_
  have hw : wf h1 := by rw [eh1]; exact hw.put np_109_0
  change am_R _ _ _ _ _ _ (am_put h 109 0 0) _
  rw [← eh1]
  refine am_R.next ((hp 5).trans rfl) rfl ?_
  refine am_R.next ((hp 6).trans rfl) rfl ?_
  refine am_R.next ((hp 7).trans rfl) rfl ?_
  refine am_R.next ((hp 8).trans rfl) rfl ?_
  refine r_getI ((hp 9).trans rfl) (hw.o (i := 109) (by decide) rfl) ?_
  refine am_R.next ((hp 12).trans rfl) rfl ?_
  refine r_cs (as := [.inr (.inl x1), .inr (.inl 0), .inr (.inl (h1.2.2.2 109 5))]) (st' := []) ((hp 13).trans rfl) rfl rfl (Nat.le_of_ble_eq_true rfl) (Nat.le_of_ble_eq_true rfl) (am_R.post H (fun v g2 hq => ?_))
  obtain ⟨r3, rfl, hw, H⟩ := hq
  change am_R _ _ _ _ _ [.inl r3] _ _
  refine r_if ((hp 16).trans rfl) (fun c14 => ?_) (fun c14 => ?_)
  · have H := H.1 c14
    refine am_R.next ((hp 22).trans rfl) rfl ?_
    refine am_R.next ((hp 23).trans rfl) rfl ?_
    obtain ⟨h4, eh4⟩ : ∃ z : am_H, z = am_put g2 109 8 x1 := ⟨_, rfl⟩
    have H := H h4 eh4
    refine r_putI ((hp 24).trans rfl) (hw.o (i := 109) (by decide) rfl) ?_
    have hw : wf h4 := by rw [eh4]; exact hw.put np_109_8
    change am_R _ _ _ _ _ _ (am_put g2 109 8 x1) _
    rw [← eh4]
    refine am_R.next ((hp 27).trans rfl) rfl ?_
    refine am_R.next ((hp 28).trans rfl) rfl ?_
    obtain ⟨h5, eh5⟩ : ∃ z : am_H, z = am_put h4 109 5 0 := ⟨_, rfl⟩
    have H := H h5 eh5
    refine r_putI ((hp 29).trans rfl) (hw.o (i := 109) (by decide) rfl) ?_
    have hw : wf h5 := by rw [eh5]; exact hw.put np_109_5
    change am_R _ _ _ _ _ _ (am_put h4 109 5 0) _
    rw [← eh5]
    refine am_R.next ((hp 32).trans rfl) rfl ?_
    refine am_R.next ((hp 33).trans rfl) rfl ?_
    obtain ⟨h6, eh6⟩ : ∃ z : am_H, z = am_put h5 109 7 0 := ⟨_, rfl⟩
    have H := H h6 eh6
    refine r_putI ((hp 34).trans rfl) (hw.o (i := 109) (by decide) rfl) ?_
    have hw : wf h6 := by rw [eh6]; exact hw.put np_109_7
    change am_R _ _ _ _ _ _ (am_put h5 109 7 0) _
    rw [← eh6]
    refine am_R.next ((hp 37).trans rfl) rfl ?_
    refine am_R.next ((hp 38).trans rfl) rfl ?_
    obtain ⟨h7, eh7⟩ : ∃ z : am_H, z = am_put h6 109 11 0 := ⟨_, rfl⟩
    have H := H h7 eh7
    refine r_putI ((hp 39).trans rfl) (hw.o (i := 109) (by decide) rfl) ?_
    have hw : wf h7 := by rw [eh7]; exact hw.put np_109_11
    change am_R _ _ _ _ _ _ (am_put h6 109 11 0) _
    rw [← eh7]
    refine am_R.next ((hp 42).trans rfl) rfl ?_
    refine r_getR ((hp 43).trans rfl) (hw.o (i := 109) (by decide) rfl) (hw.r wr_109_4) ?_
    refine r_cs (as := [.inr (.inr ((113 : Nat) : Int))]) (st' := []) ((hp 46).trans rfl) rfl rfl (Nat.le_of_ble_eq_true rfl) (Nat.le_of_ble_eq_true rfl) (am_R.post H (fun v g8 hq => ?_))
    obtain ⟨rfl, hw, H⟩ := hq
    change am_R _ _ _ _ _ [] _ _
    refine am_R.next ((hp 49).trans rfl) rfl ?_
    refine r_cv (bs := []) (st' := []) ((hp 50).trans rfl) (hw.o (i := 109) (by decide) rfl) rfl rfl (Nat.le_of_ble_eq_true rfl) (Nat.le_of_ble_eq_true rfl) (am_R.post H (fun v g9 hq => ?_))
    obtain ⟨rfl, hw, H⟩ := hq
    change am_R _ _ _ _ _ [] _ _
    refine am_R.next ((hp 53).trans rfl) rfl ?_
    refine am_R.next ((hp 54).trans rfl) rfl ?_
    refine r_cv (bs := [.inl 0]) (st' := []) ((hp 55).trans rfl) (hw.o (i := 109) (by decide) rfl) rfl rfl (Nat.le_of_ble_eq_true rfl) (Nat.le_of_ble_eq_true rfl) (am_R.post H (fun v g10 hq => ?_))
    obtain ⟨r11, rfl, hw, H⟩ := hq
    change am_R _ _ _ _ _ [.inl r11] _ _
    refine r_if ((hp 58).trans rfl) (fun c13 => ?_) (fun c13 => ?_)
    · have H := H.1 c13
      exact H
    · have H := H.2 (Decidable.not_not.mp c13)
      refine am_R.next ((hp 61).trans rfl) rfl ?_
      refine am_R.next ((hp 62).trans rfl) rfl ?_
      refine r_cv (bs := [.inl 2]) (st' := []) ((hp 63).trans rfl) (hw.o (i := 109) (by decide) rfl) rfl rfl (Nat.le_of_ble_eq_true rfl) (Nat.le_of_ble_eq_true rfl) (am_R.post H (fun v g12 hq => ?_))
      obtain ⟨rfl, hw, H⟩ := hq
      change am_R _ _ _ _ _ [] _ _
      exact H
  · have H := H.2 (Decidable.not_not.mp c14)
    refine am_R.next ((hp 19).trans rfl) rfl ?_
    exact am_R.ret ((hp 21).trans rfl) rfl H
theorem w_M_house_66 {scr : Nat × (Nat → Int)} {d : Nat} {h : am_H} {Q : Option am_V → am_H → Prop} {x1 : Int} (hs : am_sc scr) (hw : wf h) (H : am_R (am_prog scr) d f_M_named 0 [some (.inr (.inr ((109 : Nat) : Int))), some (.inl 1), some (.inl 1), some (.inl 6)] [] h (fun v g1 => ∃ r2 : Int, v = some (.inl r2) ∧ wf g1 ∧ (∀ h3 : am_H, h3 = am_put g1 113 1 r2 → (am_R (am_prog scr) d f_M_named 0 [some (.inr (.inr ((109 : Nat) : Int))), some (.inl 2), some (.inl 1), some (.inl 6)] [] h3 (fun v g4 => ∃ r5 : Int, v = some (.inl r5) ∧ wf g4 ∧ (∀ h6 : am_H, h6 = am_put g4 113 2 r5 → (am_R (am_prog scr) d f_M_named 0 [some (.inr (.inr ((109 : Nat) : Int))), some (.inl 3), some (.inl 1), some (.inl 4)] [] h6 (fun v g7 => ∃ r8 : Int, v = some (.inl r8) ∧ wf g7 ∧ (∀ h9 : am_H, h9 = am_put g7 113 3 r8 → (am_R (am_prog scr) d f_M_closes 0 [some (.inr (.inr ((109 : Nat) : Int)))] [] h9 (fun v g10 => v = none ∧ wf g10 ∧ (am_R (am_prog scr) (d + 1) f_M_house 111 [some (.inr (.inr ((109 : Nat) : Int))), some (.inl x1), none] [] g10 Q)))))))))))) : am_R (am_prog scr) (d + 1) f_M_house 66 [some (.inr (.inr ((109 : Nat) : Int))), some (.inl x1), none] [] h Q := by
  have hp : ∀ k, (am_prog scr).1 f_M_house k = c_M_house k := fun _ => rfl
  refine am_R.next ((hp 66).trans rfl) rfl ?_
  refine r_getR ((hp 67).trans rfl) (hw.o (i := 109) (by decide) rfl) (hw.r wr_109_4) ?_
  refine am_R.next ((hp 70).trans rfl) rfl ?_
  refine am_R.next ((hp 71).trans rfl) rfl ?_
  refine am_R.next ((hp 72).trans rfl) rfl ?_
  refine am_R.next ((hp 73).trans rfl) rfl ?_
  refine am_R.next ((hp 74).trans rfl) rfl ?_
  refine r_cv (bs := [.inl 1, .inl 1, .inl 6]) (st' := [.inl 1, .inr (.inr ((113 : Nat) : Int))]) ((hp 76).trans rfl) (hw.o (i := 109) (by decide) rfl) rfl rfl (Nat.le_of_ble_eq_true rfl) (Nat.le_of_ble_eq_true rfl) (am_R.post H (fun v g1 hq => ?_))
  obtain ⟨r2, rfl, hw, H⟩ := hq
  change am_R _ _ _ _ _ [.inl r2, .inl 1, .inr (.inr ((113 : Nat) : Int))] _ _
  obtain ⟨h3, eh3⟩ : ∃ z : am_H, z = am_put g1 113 1 r2 := ⟨_, rfl⟩
  have H := H h3 eh3
  refine r_iast ((hp 79).trans rfl) (hw.a (i := 113) (by decide) rfl (by decide) (by decide)) ?_
  have hw : wf h3 := by rw [eh3]; exact hw.pa na_113
  change am_R _ _ _ _ _ _ (am_put g1 113 1 r2) _
  rw [← eh3]
  refine am_R.next ((hp 80).trans rfl) rfl ?_
  refine r_getR ((hp 81).trans rfl) (hw.o (i := 109) (by decide) rfl) (hw.r wr_109_4) ?_
  refine am_R.next ((hp 84).trans rfl) rfl ?_
  refine am_R.next ((hp 85).trans rfl) rfl ?_
  refine am_R.next ((hp 86).trans rfl) rfl ?_
  refine am_R.next ((hp 87).trans rfl) rfl ?_
  refine am_R.next ((hp 88).trans rfl) rfl ?_
  refine r_cv (bs := [.inl 2, .inl 1, .inl 6]) (st' := [.inl 2, .inr (.inr ((113 : Nat) : Int))]) ((hp 90).trans rfl) (hw.o (i := 109) (by decide) rfl) rfl rfl (Nat.le_of_ble_eq_true rfl) (Nat.le_of_ble_eq_true rfl) (am_R.post H (fun v g4 hq => ?_))
  obtain ⟨r5, rfl, hw, H⟩ := hq
  change am_R _ _ _ _ _ [.inl r5, .inl 2, .inr (.inr ((113 : Nat) : Int))] _ _
  obtain ⟨h6, eh6⟩ : ∃ z : am_H, z = am_put g4 113 2 r5 := ⟨_, rfl⟩
  have H := H h6 eh6
  refine r_iast ((hp 93).trans rfl) (hw.a (i := 113) (by decide) rfl (by decide) (by decide)) ?_
  have hw : wf h6 := by rw [eh6]; exact hw.pa na_113
  change am_R _ _ _ _ _ _ (am_put g4 113 2 r5) _
  rw [← eh6]
  refine am_R.next ((hp 94).trans rfl) rfl ?_
  refine r_getR ((hp 95).trans rfl) (hw.o (i := 109) (by decide) rfl) (hw.r wr_109_4) ?_
  refine am_R.next ((hp 98).trans rfl) rfl ?_
  refine am_R.next ((hp 99).trans rfl) rfl ?_
  refine am_R.next ((hp 100).trans rfl) rfl ?_
  refine am_R.next ((hp 101).trans rfl) rfl ?_
  refine am_R.next ((hp 102).trans rfl) rfl ?_
  refine r_cv (bs := [.inl 3, .inl 1, .inl 4]) (st' := [.inl 3, .inr (.inr ((113 : Nat) : Int))]) ((hp 103).trans rfl) (hw.o (i := 109) (by decide) rfl) rfl rfl (Nat.le_of_ble_eq_true rfl) (Nat.le_of_ble_eq_true rfl) (am_R.post H (fun v g7 hq => ?_))
  obtain ⟨r8, rfl, hw, H⟩ := hq
  change am_R _ _ _ _ _ [.inl r8, .inl 3, .inr (.inr ((113 : Nat) : Int))] _ _
  obtain ⟨h9, eh9⟩ : ∃ z : am_H, z = am_put g7 113 3 r8 := ⟨_, rfl⟩
  have H := H h9 eh9
  refine r_iast ((hp 106).trans rfl) (hw.a (i := 113) (by decide) rfl (by decide) (by decide)) ?_
  have hw : wf h9 := by rw [eh9]; exact hw.pa na_113
  change am_R _ _ _ _ _ _ (am_put g7 113 3 r8) _
  rw [← eh9]
  refine am_R.next ((hp 107).trans rfl) rfl ?_
  refine r_cv (bs := []) (st' := []) ((hp 108).trans rfl) (hw.o (i := 109) (by decide) rfl) rfl rfl (Nat.le_of_ble_eq_true rfl) (Nat.le_of_ble_eq_true rfl) (am_R.post H (fun v g10 hq => ?_))
  obtain ⟨rfl, hw, H⟩ := hq
  change am_R _ _ _ _ _ [] _ _
  exact H
theorem w_M_house_111 {scr : Nat × (Nat → Int)} {d : Nat} {h : am_H} {Q : Option am_V → am_H → Prop} {x1 : Int} (hs : am_sc scr) (hw : wf h) (H : (¬ ((h.2.2.2 109 11) = 0) → (am_R (am_prog scr) (d + 1) f_M_house 138 [some (.inr (.inr ((109 : Nat) : Int))), some (.inl x1), none] [] h Q)) ∧ ((h.2.2.2 109 11) = 0 → (((h.2.2.2 109 9) = 26 → (am_R (am_prog scr) (d + 1) f_M_house 138 [some (.inr (.inr ((109 : Nat) : Int))), some (.inl x1), none] [] h Q)) ∧ (¬ ((h.2.2.2 109 9) = 26) → (am_R (am_prog scr) d f_M_readLine 0 [some (.inr (.inr ((109 : Nat) : Int)))] [] h (fun v g1 => v = none ∧ wf g1 ∧ (am_R (am_prog scr) d f_M_closes 0 [some (.inr (.inr ((109 : Nat) : Int)))] [] g1 (fun v g2 => v = none ∧ wf g2 ∧ (am_R (am_prog scr) (d + 1) f_M_house 111 [some (.inr (.inr ((109 : Nat) : Int))), some (.inl x1), none] [] g2 Q))))))))) : am_R (am_prog scr) (d + 1) f_M_house 111 [some (.inr (.inr ((109 : Nat) : Int))), some (.inl x1), none] [] h Q := by
  have hp : ∀ k, (am_prog scr).1 f_M_house k = c_M_house k := fun _ => rfl
  refine am_R.next ((hp 111).trans rfl) rfl ?_
  refine r_getI ((hp 112).trans rfl) (hw.o (i := 109) (by decide) rfl) ?_
  refine r_if ((hp 115).trans rfl) (fun c4 => ?_) (fun c4 => ?_)
  · have H := H.1 c4
    exact H
  · have H := H.2 (Decidable.not_not.mp c4)
    refine am_R.next ((hp 118).trans rfl) rfl ?_
    refine r_getI ((hp 119).trans rfl) (hw.o (i := 109) (by decide) rfl) ?_
    refine am_R.next ((hp 122).trans rfl) rfl ?_
    refine r_ic ((hp 124).trans rfl) (fun c3 => ?_) (fun c3 => ?_)
    · have H := H.1 c3
      exact H
    · have H := H.2 c3
      refine am_R.next ((hp 127).trans rfl) rfl ?_
      refine r_cv (bs := []) (st' := []) ((hp 128).trans rfl) (hw.o (i := 109) (by decide) rfl) rfl rfl (Nat.le_of_ble_eq_true rfl) (Nat.le_of_ble_eq_true rfl) (am_R.post H (fun v g1 hq => ?_))
      obtain ⟨rfl, hw, H⟩ := hq
      change am_R _ _ _ _ _ [] _ _
      refine am_R.next ((hp 131).trans rfl) rfl ?_
      refine r_cv (bs := []) (st' := []) ((hp 132).trans rfl) (hw.o (i := 109) (by decide) rfl) rfl rfl (Nat.le_of_ble_eq_true rfl) (Nat.le_of_ble_eq_true rfl) (am_R.post H (fun v g2 hq => ?_))
      obtain ⟨rfl, hw, H⟩ := hq
      change am_R _ _ _ _ _ [] _ _
      refine am_R.next ((hp 135).trans rfl) rfl ?_
      exact H
theorem w_M_house_138 {scr : Nat × (Nat → Int)} {d : Nat} {h : am_H} {Q : Option am_V → am_H → Prop} {x1 : Int} (hs : am_sc scr) (hw : wf h) (H : ∀ h1 : am_H, h1 = am_put h 109 13 (h.2.2.2 109 11) → ((¬ ((h1.2.2.2 109 11) = 0) → (∀ h2 : am_H, h2 = am_put h1 109 14 (h1.2.2.2 109 12) → (((h2.2.2.2 109 11) = 0 → (am_R (am_prog scr) (d + 1) f_M_house 182 [some (.inr (.inr ((109 : Nat) : Int))), some (.inl x1), some (.inl 0)] [] h2 Q)) ∧ (¬ ((h2.2.2.2 109 11) = 0) → (Q (some (.inl (am_w ((-30) - (h2.2.2.2 109 11))))) h2))))) ∧ ((h1.2.2.2 109 11) = 0 → (∀ h4 : am_H, h4 = am_put h1 109 14 (-1) → (((h4.2.2.2 109 11) = 0 → (am_R (am_prog scr) (d + 1) f_M_house 182 [some (.inr (.inr ((109 : Nat) : Int))), some (.inl x1), some (.inl 0)] [] h4 Q)) ∧ (¬ ((h4.2.2.2 109 11) = 0) → (Q (some (.inl (am_w ((-30) - (h4.2.2.2 109 11))))) h4))))))) : am_R (am_prog scr) (d + 1) f_M_house 138 [some (.inr (.inr ((109 : Nat) : Int))), some (.inl x1), none] [] h Q := by
  have hp : ∀ k, (am_prog scr).1 f_M_house k = c_M_house k := fun _ => rfl
  refine am_R.next ((hp 138).trans rfl) rfl ?_
  refine am_R.next ((hp 139).trans rfl) rfl ?_
  refine r_getI ((hp 140).trans rfl) (hw.o (i := 109) (by decide) rfl) ?_
  obtain ⟨h1, eh1⟩ : ∃ z : am_H, z = am_put h 109 13 (h.2.2.2 109 11) := ⟨_, rfl⟩
  have H := H h1 eh1
  refine r_putI ((hp 143).trans rfl) (hw.o (i := 109) (by decide) rfl) ?_
  have hw : wf h1 := by rw [eh1]; exact hw.put np_109_13
  change am_R _ _ _ _ _ _ (am_put h 109 13 (h.2.2.2 109 11)) _
  rw [← eh1]
  refine am_R.next ((hp 146).trans rfl) rfl ?_
  refine am_R.next ((hp 147).trans rfl) rfl ?_
  refine r_getI ((hp 148).trans rfl) (hw.o (i := 109) (by decide) rfl) ?_
  refine r_if ((hp 151).trans rfl) (fun c6 => ?_) (fun c6 => ?_)
  · have H := H.1 c6
    refine am_R.next ((hp 158).trans rfl) rfl ?_
    refine r_getI ((hp 159).trans rfl) (hw.o (i := 109) (by decide) rfl) ?_
    obtain ⟨h2, eh2⟩ : ∃ z : am_H, z = am_put h1 109 14 (h1.2.2.2 109 12) := ⟨_, rfl⟩
    have H := H h2 eh2
    refine r_putI ((hp 162).trans rfl) (hw.o (i := 109) (by decide) rfl) ?_
    have hw : wf h2 := by rw [eh2]; exact hw.put np_109_14
    change am_R _ _ _ _ _ _ (am_put h1 109 14 (h1.2.2.2 109 12)) _
    rw [← eh2]
    refine am_R.next ((hp 165).trans rfl) rfl ?_
    refine r_getI ((hp 166).trans rfl) (hw.o (i := 109) (by decide) rfl) ?_
    refine r_if ((hp 169).trans rfl) (fun c3 => ?_) (fun c3 => ?_)
    · have H := H.1 c3
      refine am_R.next ((hp 180).trans rfl) rfl ?_
      refine am_R.next (lv' := [some (.inr (.inr ((109 : Nat) : Int))), some (.inl x1), some (.inl 0)]) ((hp 181).trans rfl) rfl ?_
      exact H
    · have H := H.2 c3
      refine am_R.next ((hp 172).trans rfl) rfl ?_
      refine am_R.next ((hp 174).trans rfl) rfl ?_
      refine r_getI ((hp 175).trans rfl) (hw.o (i := 109) (by decide) rfl) ?_
      refine am_R.next ((hp 178).trans rfl) rfl ?_
      exact am_R.ret ((hp 179).trans rfl) rfl H
  · have H := H.2 (Decidable.not_not.mp c6)
    refine am_R.next ((hp 154).trans rfl) rfl ?_
    refine am_R.next ((hp 155).trans rfl) rfl ?_
    obtain ⟨h4, eh4⟩ : ∃ z : am_H, z = am_put h1 109 14 (-1) := ⟨_, rfl⟩
    have H := H h4 eh4
    refine r_putI ((hp 162).trans rfl) (hw.o (i := 109) (by decide) rfl) ?_
    have hw : wf h4 := by rw [eh4]; exact hw.put np_109_14
    change am_R _ _ _ _ _ _ (am_put h1 109 14 (-1)) _
    rw [← eh4]
    refine am_R.next ((hp 165).trans rfl) rfl ?_
    refine r_getI ((hp 166).trans rfl) (hw.o (i := 109) (by decide) rfl) ?_
    refine r_if ((hp 169).trans rfl) (fun c5 => ?_) (fun c5 => ?_)
    · have H := H.1 c5
      refine am_R.next ((hp 180).trans rfl) rfl ?_
      refine am_R.next (lv' := [some (.inr (.inr ((109 : Nat) : Int))), some (.inl x1), some (.inl 0)]) ((hp 181).trans rfl) rfl ?_
      exact H
    · have H := H.2 c5
      refine am_R.next ((hp 172).trans rfl) rfl ?_
      refine am_R.next ((hp 174).trans rfl) rfl ?_
      refine r_getI ((hp 175).trans rfl) (hw.o (i := 109) (by decide) rfl) ?_
      refine am_R.next ((hp 178).trans rfl) rfl ?_
      exact am_R.ret ((hp 179).trans rfl) rfl H
theorem w_M_house_182 {scr : Nat × (Nat → Int)} {d : Nat} {h : am_H} {Q : Option am_V → am_H → Prop} {x1 x2 : Int} (hs : am_sc scr) (hw : wf h) (H : (¬ (x2 < 1112) → ((¬ ((h.2.2.2 110 4) = 0) → (∀ h1 : am_H, h1 = am_put h 110 15 0 → (Q (some (.inl (h1.2.2.2 110 0))) h1))) ∧ ((h.2.2.2 110 4) = 0 → (∀ h2 : am_H, h2 = am_put h 110 15 1 → (Q (some (.inl (h2.2.2.2 110 0))) h2))))) ∧ (x2 < 1112 → ((0 ≤ x2 ∧ x2 < 1112) ∧ (((0 ≤ x2 ∧ x2 < 3336)) ∧ (∀ h6 : am_H, h6 = am_put h 110 x2.toNat (h.2.2.2 113 x2.toNat) → (∀ y7 : Int, y7 = am_w (x2 + 1) → (am_R (am_prog scr) (d + 1) f_M_house 182 [some (.inr (.inr ((109 : Nat) : Int))), some (.inl x1), some (.inl y7)] [] h6 Q))))))) : am_R (am_prog scr) (d + 1) f_M_house 182 [some (.inr (.inr ((109 : Nat) : Int))), some (.inl x1), some (.inl x2)] [] h Q := by
  have hp : ∀ k, (am_prog scr).1 f_M_house k = c_M_house k := fun _ => rfl
  refine am_R.next ((hp 182).trans rfl) rfl ?_
  refine am_R.next ((hp 183).trans rfl) rfl ?_
  refine r_ic ((hp 186).trans rfl) (fun c8 => ?_) (fun c8 => ?_)
  · have H := H.1 c8
    refine am_R.next ((hp 207).trans rfl) rfl ?_
    refine r_getR ((hp 208).trans rfl) (hw.o (i := 109) (by decide) rfl) (hw.r wr_109_1) ?_
    refine am_R.next ((hp 211).trans rfl) rfl ?_
    refine am_R.next ((hp 213).trans rfl) rfl ?_
    refine r_getR ((hp 214).trans rfl) (hw.o (i := 109) (by decide) rfl) (hw.r wr_109_1) ?_
    refine am_R.next ((hp 217).trans rfl) rfl ?_
    refine r_iald ((hp 218).trans rfl) (hw.a (i := 110) (by decide) rfl (by decide) (by decide)) ?_
    refine r_if ((hp 219).trans rfl) (fun c3 => ?_) (fun c3 => ?_)
    · have H := H.1 c3
      refine am_R.next ((hp 226).trans rfl) rfl ?_
      obtain ⟨h1, eh1⟩ : ∃ z : am_H, z = am_put h 110 15 0 := ⟨_, rfl⟩
      have H := H h1 eh1
      refine r_iast ((hp 227).trans rfl) (hw.a (i := 110) (by decide) rfl (by decide) (by decide)) ?_
      have hw : wf h1 := by rw [eh1]; exact hw.pa na_110
      change am_R _ _ _ _ _ _ (am_put h 110 15 0) _
      rw [← eh1]
      refine am_R.next ((hp 228).trans rfl) rfl ?_
      refine r_getR ((hp 229).trans rfl) (hw.o (i := 109) (by decide) rfl) (hw.r wr_109_1) ?_
      refine am_R.next ((hp 232).trans rfl) rfl ?_
      refine r_iald ((hp 233).trans rfl) (hw.a (i := 110) (by decide) rfl (by decide) (by decide)) ?_
      exact am_R.ret ((hp 234).trans rfl) rfl H
    · have H := H.2 (Decidable.not_not.mp c3)
      refine am_R.next ((hp 222).trans rfl) rfl ?_
      refine am_R.next ((hp 223).trans rfl) rfl ?_
      obtain ⟨h2, eh2⟩ : ∃ z : am_H, z = am_put h 110 15 1 := ⟨_, rfl⟩
      have H := H h2 eh2
      refine r_iast ((hp 227).trans rfl) (hw.a (i := 110) (by decide) rfl (by decide) (by decide)) ?_
      have hw : wf h2 := by rw [eh2]; exact hw.pa na_110
      change am_R _ _ _ _ _ _ (am_put h 110 15 1) _
      rw [← eh2]
      refine am_R.next ((hp 228).trans rfl) rfl ?_
      refine r_getR ((hp 229).trans rfl) (hw.o (i := 109) (by decide) rfl) (hw.r wr_109_1) ?_
      refine am_R.next ((hp 232).trans rfl) rfl ?_
      refine r_iald ((hp 233).trans rfl) (hw.a (i := 110) (by decide) rfl (by decide) (by decide)) ?_
      exact am_R.ret ((hp 234).trans rfl) rfl H
  · have H := H.2 (Decidable.not_not.mp c8)
    refine am_R.next ((hp 189).trans rfl) rfl ?_
    refine r_getR ((hp 190).trans rfl) (hw.o (i := 109) (by decide) rfl) (hw.r wr_109_1) ?_
    refine am_R.next ((hp 193).trans rfl) rfl ?_
    refine am_R.next ((hp 194).trans rfl) rfl ?_
    refine r_getR ((hp 195).trans rfl) (hw.o (i := 109) (by decide) rfl) (hw.r wr_109_4) ?_
    refine am_R.next ((hp 198).trans rfl) rfl ?_
    obtain ⟨c4, H⟩ := H
    refine r_iald ((hp 199).trans rfl) (hw.a (i := 113) (by decide) rfl c4.1 c4.2) ?_
    obtain ⟨c5, H⟩ := H
    obtain ⟨h6, eh6⟩ : ∃ z : am_H, z = am_put h 110 x2.toNat (h.2.2.2 113 x2.toNat) := ⟨_, rfl⟩
    have H := H h6 eh6
    refine r_iast ((hp 200).trans rfl) (hw.a (i := 110) (by decide) rfl c5.1 c5.2) ?_
    have hw : wf h6 := by rw [eh6]; exact hw.pa na_110
    change am_R _ _ _ _ _ _ (am_put h 110 x2.toNat (h.2.2.2 113 x2.toNat)) _
    rw [← eh6]
    obtain ⟨y7, ey7⟩ : ∃ z : Int, z = am_w (x2 + 1) := ⟨_, rfl⟩
    have H := H y7 ey7
    refine am_R.next (lv' := [some (.inr (.inr ((109 : Nat) : Int))), some (.inl x1), some (.inl y7)]) (st' := []) (h' := h6) (pc' := 204) ((hp 201).trans rfl) (by rw [ey7]; rfl) ?_
    refine am_R.next ((hp 204).trans rfl) rfl ?_
    exact H
theorem w_M_fault_0 {scr : Nat × (Nat → Int)} {d : Nat} {h : am_H} {Q : Option am_V → am_H → Prop} {x1 : Int} (hs : am_sc scr) (hw : wf h) (H : ∀ h1 : am_H, h1 = am_put h 109 0 0 → ((¬ (x1 = 0) → ((¬ (x1 = 1) → (Q (some (.inl (-1))) h1)) ∧ (x1 = 1 → (Q (some (.inl (h1.2.2.2 109 14))) h1)))) ∧ (x1 = 0 → (Q (some (.inl (h1.2.2.2 109 13))) h1)))) : am_R (am_prog scr) d f_M_fault 0 [some (.inr (.inr ((109 : Nat) : Int))), some (.inl x1)] [] h Q := by
  have hp : ∀ k, (am_prog scr).1 f_M_fault k = c_M_fault k := fun _ => rfl
  refine am_R.next ((hp 0).trans rfl) rfl ?_
  refine am_R.next ((hp 1).trans rfl) rfl ?_
  obtain ⟨h1, eh1⟩ : ∃ z : am_H, z = am_put h 109 0 0 := ⟨_, rfl⟩
  have H := H h1 eh1
  refine r_putI ((hp 2).trans rfl) (hw.o (i := 109) (by decide) rfl) ?_
  have hw : wf h1 := by rw [eh1]; exact hw.put np_109_0
  change am_R _ _ _ _ _ _ (am_put h 109 0 0) _
  rw [← eh1]
  refine am_R.next ((hp 5).trans rfl) rfl ?_
  refine r_if ((hp 6).trans rfl) (fun c3 => ?_) (fun c3 => ?_)
  · have H := H.1 c3
    refine am_R.next ((hp 16).trans rfl) rfl ?_
    refine am_R.next ((hp 17).trans rfl) rfl ?_
    refine r_ic ((hp 18).trans rfl) (fun c2 => ?_) (fun c2 => ?_)
    · have H := H.1 c2
      refine am_R.next ((hp 28).trans rfl) rfl ?_
      exact am_R.ret ((hp 29).trans rfl) rfl H
    · have H := H.2 (Decidable.not_not.mp c2)
      refine am_R.next ((hp 21).trans rfl) rfl ?_
      refine r_getI ((hp 22).trans rfl) (hw.o (i := 109) (by decide) rfl) ?_
      refine am_R.next ((hp 25).trans rfl) rfl ?_
      exact am_R.ret ((hp 29).trans rfl) rfl H
  · have H := H.2 (Decidable.not_not.mp c3)
    refine am_R.next ((hp 9).trans rfl) rfl ?_
    refine r_getI ((hp 10).trans rfl) (hw.o (i := 109) (by decide) rfl) ?_
    refine am_R.next ((hp 13).trans rfl) rfl ?_
    exact am_R.ret ((hp 29).trans rfl) rfl H
theorem w_M_isSleeper_0 {scr : Nat × (Nat → Int)} {d : Nat} {h : am_H} {Q : Option am_V → am_H → Prop} {x1 : Int} (hs : am_sc scr) (hw : wf h) (H : am_R (am_prog scr) d f_M_within 0 [some (.inr (.inl x1)), none, some (.inr (.inl 0)), none, some (.inr (.inl (am_w ((h.2.2.2 110 4) - 1)))), none] [] h (fun v g1 => ∃ r2 : Int, v = some (.inl r2) ∧ wf g1 ∧ ((r2 = 0 ∨ r2 = 1) ∧ Q (some (.inl r2)) g1))) : am_R (am_prog scr) (d + 1) f_M_isSleeper 0 [some (.inr (.inr ((109 : Nat) : Int))), some (.inr (.inl x1)), none] [] h Q := by
  have hp : ∀ k, (am_prog scr).1 f_M_isSleeper k = c_M_isSleeper k := fun _ => rfl
  refine am_R.next ((hp 0).trans rfl) rfl ?_
  refine am_R.next ((hp 1).trans rfl) rfl ?_
  refine am_R.next ((hp 2).trans rfl) rfl ?_
  refine r_getR ((hp 3).trans rfl) (hw.o (i := 109) (by decide) rfl) (hw.r wr_109_1) ?_
  refine am_R.next ((hp 6).trans rfl) rfl ?_
  refine r_iald ((hp 7).trans rfl) (hw.a (i := 110) (by decide) rfl (by decide) (by decide)) ?_
  refine am_R.next ((hp 8).trans rfl) rfl ?_
  refine am_R.next ((hp 9).trans rfl) rfl ?_
  refine am_R.next ((hp 10).trans rfl) rfl ?_
  refine r_cs (as := [.inr (.inl x1), .inr (.inl 0), .inr (.inl (am_w ((h.2.2.2 110 4) - 1)))]) (st' := []) ((hp 11).trans rfl) rfl rfl (Nat.le_of_ble_eq_true rfl) (Nat.le_of_ble_eq_true rfl) (am_R.post H (fun v g1 hq => ?_))
  obtain ⟨r2, rfl, hw, H⟩ := hq
  change am_R _ _ _ _ _ [.inl r2] _ _
  obtain ⟨c3, H⟩ := H
  exact r_zret ((hp 14).trans rfl) c3 H
theorem w_M_areTwo_0 {scr : Nat × (Nat → Int)} {d : Nat} {h : am_H} {Q : Option am_V → am_H → Prop} {x1 x3 : Int} (hs : am_sc scr) (hw : wf h) (H : am_R (am_prog scr) d f_M_isSleeper 0 [some (.inr (.inr ((109 : Nat) : Int))), some (.inr (.inl x1)), none] [] h (fun v g1 => ∃ r2 : Int, v = some (.inl r2) ∧ wf g1 ∧ ((r2 = 0 → (Q (some (.inl 0)) g1)) ∧ (¬ (r2 = 0) → (am_R (am_prog scr) d f_M_isSleeper 0 [some (.inr (.inr ((109 : Nat) : Int))), some (.inr (.inl x3)), none] [] g1 (fun v g3 => ∃ r4 : Int, v = some (.inl r4) ∧ wf g3 ∧ ((r4 = 0 → (Q (some (.inl 0)) g3)) ∧ (¬ (r4 = 0) → ((x1 = x3 → (Q (some (.inl 0)) g3)) ∧ (¬ (x1 = x3) → (Q (some (.inl 1)) g3))))))))))) : am_R (am_prog scr) (d + 1) f_M_areTwo 0 [some (.inr (.inr ((109 : Nat) : Int))), some (.inr (.inl x1)), none, some (.inr (.inl x3)), none] [] h Q := by
  have hp : ∀ k, (am_prog scr).1 f_M_areTwo k = c_M_areTwo k := fun _ => rfl
  refine am_R.next ((hp 0).trans rfl) rfl ?_
  refine am_R.next ((hp 1).trans rfl) rfl ?_
  refine r_cv (bs := [.inr (.inl x1)]) (st' := []) ((hp 2).trans rfl) (hw.o (i := 109) (by decide) rfl) rfl rfl (Nat.le_of_ble_eq_true rfl) (Nat.le_of_ble_eq_true rfl) (am_R.post H (fun v g1 hq => ?_))
  obtain ⟨r2, rfl, hw, H⟩ := hq
  change am_R _ _ _ _ _ [.inl r2] _ _
  refine r_if ((hp 5).trans rfl) (fun c7 => ?_) (fun c7 => ?_)
  · have H := H.1 c7
    refine am_R.next ((hp 26).trans rfl) rfl ?_
    exact r_zret ((hp 27).trans rfl) (Or.inl rfl) H
  · have H := H.2 c7
    refine am_R.next ((hp 8).trans rfl) rfl ?_
    refine am_R.next ((hp 9).trans rfl) rfl ?_
    refine r_cv (bs := [.inr (.inl x3)]) (st' := []) ((hp 10).trans rfl) (hw.o (i := 109) (by decide) rfl) rfl rfl (Nat.le_of_ble_eq_true rfl) (Nat.le_of_ble_eq_true rfl) (am_R.post H (fun v g3 hq => ?_))
    obtain ⟨r4, rfl, hw, H⟩ := hq
    change am_R _ _ _ _ _ [.inl r4] _ _
    refine r_if ((hp 13).trans rfl) (fun c6 => ?_) (fun c6 => ?_)
    · have H := H.1 c6
      refine am_R.next ((hp 26).trans rfl) rfl ?_
      exact r_zret ((hp 27).trans rfl) (Or.inl rfl) H
    · have H := H.2 c6
      refine am_R.next ((hp 16).trans rfl) rfl ?_
      refine am_R.next ((hp 17).trans rfl) rfl ?_
      refine am_R.next ((hp 18).trans rfl) rfl ?_
      refine r_if ((hp 19).trans rfl) (fun c5 => ?_) (fun c5 => ?_)
      · have H := H.1 (lc_eqt c5)
        refine am_R.next ((hp 26).trans rfl) rfl ?_
        exact r_zret ((hp 27).trans rfl) (Or.inl rfl) H
      · have H := H.2 (lc_eqf c5)
        refine am_R.next ((hp 22).trans rfl) rfl ?_
        refine am_R.next ((hp 23).trans rfl) rfl ?_
        exact r_zret ((hp 27).trans rfl) (Or.inr rfl) H
theorem w_M_lastIn_0 {scr : Nat × (Nat → Int)} {d : Nat} {h : am_H} {Q : Option am_V → am_H → Prop} {x0 : Int} (hs : am_sc scr) (hw : wf h) (H : Q (some (.inl ((am_w (x0.tdiv 12)).tmod 6))) h) : am_R (am_prog scr) d f_M_lastIn 0 [some (.inl x0)] [] h Q := by
  have hp : ∀ k, (am_prog scr).1 f_M_lastIn k = c_M_lastIn k := fun _ => rfl
  refine am_R.next ((hp 0).trans rfl) rfl ?_
  refine am_R.next ((hp 1).trans rfl) rfl ?_
  refine r_i2z ((hp 3).trans rfl) (by decide) ?_
  refine am_R.next ((hp 4).trans rfl) rfl ?_
  refine r_i2z ((hp 6).trans rfl) (by decide) ?_
  exact am_R.ret ((hp 7).trans rfl) rfl H
theorem w_M_soundIn_0 {scr : Nat × (Nat → Int)} {d : Nat} {h : am_H} {Q : Option am_V → am_H → Prop} {x0 : Int} (hs : am_sc scr) (hw : wf h) (H : Q (some (.inl ((am_w (x0.tdiv 2)).tmod 6))) h) : am_R (am_prog scr) d f_M_soundIn 0 [some (.inl x0)] [] h Q := by
  have hp : ∀ k, (am_prog scr).1 f_M_soundIn k = c_M_soundIn k := fun _ => rfl
  refine am_R.next ((hp 0).trans rfl) rfl ?_
  refine am_R.next ((hp 1).trans rfl) rfl ?_
  refine r_i2z ((hp 2).trans rfl) (by decide) ?_
  refine am_R.next ((hp 3).trans rfl) rfl ?_
  refine r_i2z ((hp 5).trans rfl) (by decide) ?_
  exact am_R.ret ((hp 6).trans rfl) rfl H
theorem w_M_actIn_0 {scr : Nat × (Nat → Int)} {d : Nat} {h : am_H} {Q : Option am_V → am_H → Prop} {x0 : Int} (hs : am_sc scr) (hw : wf h) (H : Q (some (.inl (am_w (x0.tdiv 72)))) h) : am_R (am_prog scr) d f_M_actIn 0 [some (.inl x0)] [] h Q := by
  have hp : ∀ k, (am_prog scr).1 f_M_actIn k = c_M_actIn k := fun _ => rfl
  refine am_R.next ((hp 0).trans rfl) rfl ?_
  refine am_R.next ((hp 1).trans rfl) rfl ?_
  refine r_i2z ((hp 3).trans rfl) (by decide) ?_
  exact am_R.ret ((hp 4).trans rfl) rfl H
theorem w_M_standOf_0 {scr : Nat × (Nat → Int)} {d : Nat} {h : am_H} {Q : Option am_V → am_H → Prop} {x0 x1 x2 x3 : Int} (hs : am_sc scr) (hw : wf h) (H : Q (some (.inl (am_w ((am_w ((am_w ((am_w (72 * x0)) + (am_w (12 * x1)))) + (am_w (2 * x2)))) + x3)))) h) : am_R (am_prog scr) d f_M_standOf 0 [some (.inl x0), some (.inl x1), some (.inl x2), some (.inl x3)] [] h Q := by
  have hp : ∀ k, (am_prog scr).1 f_M_standOf k = c_M_standOf k := fun _ => rfl
  refine am_R.next ((hp 0).trans rfl) rfl ?_
  refine am_R.next ((hp 2).trans rfl) rfl ?_
  refine am_R.next ((hp 3).trans rfl) rfl ?_
  refine am_R.next ((hp 4).trans rfl) rfl ?_
  refine am_R.next ((hp 6).trans rfl) rfl ?_
  refine am_R.next ((hp 7).trans rfl) rfl ?_
  refine am_R.next ((hp 8).trans rfl) rfl ?_
  refine am_R.next ((hp 9).trans rfl) rfl ?_
  refine am_R.next ((hp 10).trans rfl) rfl ?_
  refine am_R.next ((hp 11).trans rfl) rfl ?_
  refine am_R.next ((hp 12).trans rfl) rfl ?_
  refine am_R.next ((hp 13).trans rfl) rfl ?_
  refine am_R.next ((hp 14).trans rfl) rfl ?_
  exact am_R.ret ((hp 15).trans rfl) rfl H
theorem w_M_standNow_0 {scr : Nat × (Nat → Int)} {d : Nat} {h : am_H} {Q : Option am_V → am_H → Prop} (hs : am_sc scr) (hw : wf h) (H : am_R (am_prog scr) d f_M_standOf 0 [some (.inl (h.2.2.2 110 14)), some (.inl (h.2.2.2 110 12)), some (.inl (h.2.2.2 110 13)), some (.inl (h.2.2.2 110 15))] [] h (fun v g1 => ∃ r2 : Int, v = some (.inl r2) ∧ wf g1 ∧ (Q (some (.inl r2)) g1))) : am_R (am_prog scr) (d + 1) f_M_standNow 0 [some (.inr (.inr ((109 : Nat) : Int)))] [] h Q := by
  have hp : ∀ k, (am_prog scr).1 f_M_standNow k = c_M_standNow k := fun _ => rfl
  refine am_R.next ((hp 0).trans rfl) rfl ?_
  refine r_getR ((hp 1).trans rfl) (hw.o (i := 109) (by decide) rfl) (hw.r wr_109_1) ?_
  refine am_R.next ((hp 4).trans rfl) rfl ?_
  refine r_iald ((hp 6).trans rfl) (hw.a (i := 110) (by decide) rfl (by decide) (by decide)) ?_
  refine am_R.next ((hp 7).trans rfl) rfl ?_
  refine r_getR ((hp 8).trans rfl) (hw.o (i := 109) (by decide) rfl) (hw.r wr_109_1) ?_
  refine am_R.next ((hp 11).trans rfl) rfl ?_
  refine r_iald ((hp 13).trans rfl) (hw.a (i := 110) (by decide) rfl (by decide) (by decide)) ?_
  refine am_R.next ((hp 14).trans rfl) rfl ?_
  refine r_getR ((hp 15).trans rfl) (hw.o (i := 109) (by decide) rfl) (hw.r wr_109_1) ?_
  refine am_R.next ((hp 18).trans rfl) rfl ?_
  refine r_iald ((hp 20).trans rfl) (hw.a (i := 110) (by decide) rfl (by decide) (by decide)) ?_
  refine am_R.next ((hp 21).trans rfl) rfl ?_
  refine r_getR ((hp 22).trans rfl) (hw.o (i := 109) (by decide) rfl) (hw.r wr_109_1) ?_
  refine am_R.next ((hp 25).trans rfl) rfl ?_
  refine r_iald ((hp 27).trans rfl) (hw.a (i := 110) (by decide) rfl (by decide) (by decide)) ?_
  refine r_cs (as := [.inl (h.2.2.2 110 14), .inl (h.2.2.2 110 12), .inl (h.2.2.2 110 13), .inl (h.2.2.2 110 15)]) (st' := []) ((hp 28).trans rfl) rfl rfl (Nat.le_of_ble_eq_true rfl) (Nat.le_of_ble_eq_true rfl) (am_R.post H (fun v g1 hq => ?_))
  obtain ⟨r2, rfl, hw, H⟩ := hq
  change am_R _ _ _ _ _ [.inl r2] _ _
  exact am_R.ret ((hp 31).trans rfl) rfl H
theorem w_M_isStand_0 {scr : Nat × (Nat → Int)} {d : Nat} {h : am_H} {Q : Option am_V → am_H → Prop} {x1 : Int} (hs : am_sc scr) (hw : wf h) (H : am_R (am_prog scr) d f_M_actIn 0 [some (.inl x1)] [] h (fun v g1 => ∃ r2 : Int, v = some (.inl r2) ∧ wf g1 ∧ (∀ h3 : am_H, h3 = am_put g1 110 14 r2 → (am_R (am_prog scr) d f_M_lastIn 0 [some (.inl x1)] [] h3 (fun v g4 => ∃ r5 : Int, v = some (.inl r5) ∧ wf g4 ∧ (∀ h6 : am_H, h6 = am_put g4 110 12 r5 → (am_R (am_prog scr) d f_M_soundIn 0 [some (.inl x1)] [] h6 (fun v g7 => ∃ r8 : Int, v = some (.inl r8) ∧ wf g7 ∧ (∀ h9 : am_H, h9 = am_put g7 110 13 r8 → (∀ h10 : am_H, h10 = am_put h9 110 15 (x1.tmod 2) → (Q none h10))))))))))) : am_R (am_prog scr) (d + 1) f_M_isStand 0 [some (.inr (.inr ((109 : Nat) : Int))), some (.inl x1)] [] h Q := by
  have hp : ∀ k, (am_prog scr).1 f_M_isStand k = c_M_isStand k := fun _ => rfl
  refine am_R.next ((hp 0).trans rfl) rfl ?_
  refine r_getR ((hp 1).trans rfl) (hw.o (i := 109) (by decide) rfl) (hw.r wr_109_1) ?_
  refine am_R.next ((hp 4).trans rfl) rfl ?_
  refine am_R.next ((hp 6).trans rfl) rfl ?_
  refine r_cs (as := [.inl x1]) (st' := [.inl 14, .inr (.inr ((110 : Nat) : Int))]) ((hp 7).trans rfl) rfl rfl (Nat.le_of_ble_eq_true rfl) (Nat.le_of_ble_eq_true rfl) (am_R.post H (fun v g1 hq => ?_))
  obtain ⟨r2, rfl, hw, H⟩ := hq
  change am_R _ _ _ _ _ [.inl r2, .inl 14, .inr (.inr ((110 : Nat) : Int))] _ _
  obtain ⟨h3, eh3⟩ : ∃ z : am_H, z = am_put g1 110 14 r2 := ⟨_, rfl⟩
  have H := H h3 eh3
  refine r_iast ((hp 10).trans rfl) (hw.a (i := 110) (by decide) rfl (by decide) (by decide)) ?_
  have hw : wf h3 := by rw [eh3]; exact hw.pa na_110
  change am_R _ _ _ _ _ _ (am_put g1 110 14 r2) _
  rw [← eh3]
  refine am_R.next ((hp 11).trans rfl) rfl ?_
  refine r_getR ((hp 12).trans rfl) (hw.o (i := 109) (by decide) rfl) (hw.r wr_109_1) ?_
  refine am_R.next ((hp 15).trans rfl) rfl ?_
  refine am_R.next ((hp 17).trans rfl) rfl ?_
  refine r_cs (as := [.inl x1]) (st' := [.inl 12, .inr (.inr ((110 : Nat) : Int))]) ((hp 18).trans rfl) rfl rfl (Nat.le_of_ble_eq_true rfl) (Nat.le_of_ble_eq_true rfl) (am_R.post H (fun v g4 hq => ?_))
  obtain ⟨r5, rfl, hw, H⟩ := hq
  change am_R _ _ _ _ _ [.inl r5, .inl 12, .inr (.inr ((110 : Nat) : Int))] _ _
  obtain ⟨h6, eh6⟩ : ∃ z : am_H, z = am_put g4 110 12 r5 := ⟨_, rfl⟩
  have H := H h6 eh6
  refine r_iast ((hp 21).trans rfl) (hw.a (i := 110) (by decide) rfl (by decide) (by decide)) ?_
  have hw : wf h6 := by rw [eh6]; exact hw.pa na_110
  change am_R _ _ _ _ _ _ (am_put g4 110 12 r5) _
  rw [← eh6]
  refine am_R.next ((hp 22).trans rfl) rfl ?_
  refine r_getR ((hp 23).trans rfl) (hw.o (i := 109) (by decide) rfl) (hw.r wr_109_1) ?_
  refine am_R.next ((hp 26).trans rfl) rfl ?_
  refine am_R.next ((hp 28).trans rfl) rfl ?_
  refine r_cs (as := [.inl x1]) (st' := [.inl 13, .inr (.inr ((110 : Nat) : Int))]) ((hp 29).trans rfl) rfl rfl (Nat.le_of_ble_eq_true rfl) (Nat.le_of_ble_eq_true rfl) (am_R.post H (fun v g7 hq => ?_))
  obtain ⟨r8, rfl, hw, H⟩ := hq
  change am_R _ _ _ _ _ [.inl r8, .inl 13, .inr (.inr ((110 : Nat) : Int))] _ _
  obtain ⟨h9, eh9⟩ : ∃ z : am_H, z = am_put g7 110 13 r8 := ⟨_, rfl⟩
  have H := H h9 eh9
  refine r_iast ((hp 32).trans rfl) (hw.a (i := 110) (by decide) rfl (by decide) (by decide)) ?_
  have hw : wf h9 := by rw [eh9]; exact hw.pa na_110
  change am_R _ _ _ _ _ _ (am_put g7 110 13 r8) _
  rw [← eh9]
  refine am_R.next ((hp 33).trans rfl) rfl ?_
  refine r_getR ((hp 34).trans rfl) (hw.o (i := 109) (by decide) rfl) (hw.r wr_109_1) ?_
  refine am_R.next ((hp 37).trans rfl) rfl ?_
  refine am_R.next ((hp 39).trans rfl) rfl ?_
  refine am_R.next ((hp 40).trans rfl) rfl ?_
  refine r_i2z ((hp 41).trans rfl) (by decide) ?_
  obtain ⟨h10, eh10⟩ : ∃ z : am_H, z = am_put h9 110 15 (x1.tmod 2) := ⟨_, rfl⟩
  have H := H h10 eh10
  refine r_iast ((hp 42).trans rfl) (hw.a (i := 110) (by decide) rfl (by decide) (by decide)) ?_
  have hw : wf h10 := by rw [eh10]; exact hw.pa na_110
  change am_R _ _ _ _ _ _ (am_put h9 110 15 (x1.tmod 2)) _
  rw [← eh10]
  exact am_R.ret ((hp 43).trans rfl) rfl H
theorem w_M_hasEnded_0 {scr : Nat × (Nat → Int)} {d : Nat} {h : am_H} {Q : Option am_V → am_H → Prop} {x1 : Int} (hs : am_sc scr) (hw : wf h) (H : am_R (am_prog scr) d f_M_actIn 0 [some (.inl x1)] [] h (fun v g1 => ∃ r2 : Int, v = some (.inl r2) ∧ wf g1 ∧ ((¬ (r2 = (g1.2.2.2 110 3)) → (Q (some (.inl 0)) g1)) ∧ (r2 = (g1.2.2.2 110 3) → (Q (some (.inl 1)) g1))))) : am_R (am_prog scr) (d + 1) f_M_hasEnded 0 [some (.inr (.inr ((109 : Nat) : Int))), some (.inl x1)] [] h Q := by
  have hp : ∀ k, (am_prog scr).1 f_M_hasEnded k = c_M_hasEnded k := fun _ => rfl
  refine am_R.next ((hp 0).trans rfl) rfl ?_
  refine r_cs (as := [.inl x1]) (st' := []) ((hp 1).trans rfl) rfl rfl (Nat.le_of_ble_eq_true rfl) (Nat.le_of_ble_eq_true rfl) (am_R.post H (fun v g1 hq => ?_))
  obtain ⟨r2, rfl, hw, H⟩ := hq
  change am_R _ _ _ _ _ [.inl r2] _ _
  refine am_R.next ((hp 4).trans rfl) rfl ?_
  refine r_getR ((hp 5).trans rfl) (hw.o (i := 109) (by decide) rfl) (hw.r wr_109_1) ?_
  refine am_R.next ((hp 8).trans rfl) rfl ?_
  refine r_iald ((hp 9).trans rfl) (hw.a (i := 110) (by decide) rfl (by decide) (by decide)) ?_
  refine r_ic ((hp 10).trans rfl) (fun c3 => ?_) (fun c3 => ?_)
  · have H := H.1 c3
    refine am_R.next ((hp 17).trans rfl) rfl ?_
    exact r_zret ((hp 18).trans rfl) (Or.inl rfl) H
  · have H := H.2 (Decidable.not_not.mp c3)
    refine am_R.next ((hp 13).trans rfl) rfl ?_
    refine am_R.next ((hp 14).trans rfl) rfl ?_
    exact r_zret ((hp 18).trans rfl) (Or.inr rfl) H
theorem w_M_isOver_0 {scr : Nat × (Nat → Int)} {d : Nat} {h : am_H} {Q : Option am_V → am_H → Prop} {x1 : Int} (hs : am_sc scr) (hw : wf h) (H : am_R (am_prog scr) d f_M_hasEnded 0 [some (.inr (.inr ((109 : Nat) : Int))), some (.inl x1)] [] h (fun v g1 => ∃ r2 : Int, v = some (.inl r2) ∧ wf g1 ∧ ((¬ (r2 = 0) → (Q (some (.inl 1)) g1)) ∧ (r2 = 0 → ((¬ ((x1.tmod 2) = 1) → (Q (some (.inl 0)) g1)) ∧ ((x1.tmod 2) = 1 → (Q (some (.inl 1)) g1))))))) : am_R (am_prog scr) (d + 1) f_M_isOver 0 [some (.inr (.inr ((109 : Nat) : Int))), some (.inl x1)] [] h Q := by
  have hp : ∀ k, (am_prog scr).1 f_M_isOver k = c_M_isOver k := fun _ => rfl
  refine am_R.next ((hp 0).trans rfl) rfl ?_
  refine am_R.next ((hp 1).trans rfl) rfl ?_
  refine r_cv (bs := [.inl x1]) (st' := []) ((hp 2).trans rfl) (hw.o (i := 109) (by decide) rfl) rfl rfl (Nat.le_of_ble_eq_true rfl) (Nat.le_of_ble_eq_true rfl) (am_R.post H (fun v g1 hq => ?_))
  obtain ⟨r2, rfl, hw, H⟩ := hq
  change am_R _ _ _ _ _ [.inl r2] _ _
  refine r_if ((hp 5).trans rfl) (fun c4 => ?_) (fun c4 => ?_)
  · have H := H.1 c4
    refine am_R.next ((hp 15).trans rfl) rfl ?_
    refine am_R.next ((hp 16).trans rfl) rfl ?_
    exact r_zret ((hp 20).trans rfl) (Or.inr rfl) H
  · have H := H.2 (Decidable.not_not.mp c4)
    refine am_R.next ((hp 8).trans rfl) rfl ?_
    refine am_R.next ((hp 9).trans rfl) rfl ?_
    refine r_i2z ((hp 10).trans rfl) (by decide) ?_
    refine am_R.next ((hp 11).trans rfl) rfl ?_
    refine r_ic ((hp 12).trans rfl) (fun c3 => ?_) (fun c3 => ?_)
    · have H := H.1 c3
      refine am_R.next ((hp 19).trans rfl) rfl ?_
      exact r_zret ((hp 20).trans rfl) (Or.inl rfl) H
    · have H := H.2 (Decidable.not_not.mp c3)
      refine am_R.next ((hp 15).trans rfl) rfl ?_
      refine am_R.next ((hp 16).trans rfl) rfl ?_
      exact r_zret ((hp 20).trans rfl) (Or.inr rfl) H
theorem w_M_farOf_0 {scr : Nat × (Nat → Int)} {d : Nat} {h : am_H} {Q : Option am_V → am_H → Prop} {x1 x2 : Int} (hs : am_sc scr) (hw : wf h) (H : (0 ≤ (am_w (16 + x1)) ∧ (am_w (16 + x1)) < 3336) ∧ ((0 ≤ (am_w (16 + x2)) ∧ (am_w (16 + x2)) < 3336) ∧ (∀ y3 : Int, y3 = am_w ((h.2.2.2 110 ((am_w (16 + x1)).toNat)) - (h.2.2.2 110 ((am_w (16 + x2)).toNat))) → ((¬ (y3 < 0) → (Q (some (.inl y3)) h)) ∧ (y3 < 0 → (Q (some (.inl (am_w (-y3)))) h)))))) : am_R (am_prog scr) d f_M_farOf 0 [some (.inr (.inr ((109 : Nat) : Int))), some (.inl x1), some (.inl x2), none] [] h Q := by
  have hp : ∀ k, (am_prog scr).1 f_M_farOf k = c_M_farOf k := fun _ => rfl
  refine am_R.next ((hp 0).trans rfl) rfl ?_
  refine r_getR ((hp 1).trans rfl) (hw.o (i := 109) (by decide) rfl) (hw.r wr_109_1) ?_
  refine am_R.next ((hp 4).trans rfl) rfl ?_
  refine am_R.next ((hp 6).trans rfl) rfl ?_
  refine am_R.next ((hp 7).trans rfl) rfl ?_
  obtain ⟨c1, H⟩ := H
  refine r_iald ((hp 8).trans rfl) (hw.a (i := 110) (by decide) rfl c1.1 c1.2) ?_
  refine am_R.next ((hp 9).trans rfl) rfl ?_
  refine r_getR ((hp 10).trans rfl) (hw.o (i := 109) (by decide) rfl) (hw.r wr_109_1) ?_
  refine am_R.next ((hp 13).trans rfl) rfl ?_
  refine am_R.next ((hp 15).trans rfl) rfl ?_
  refine am_R.next ((hp 16).trans rfl) rfl ?_
  obtain ⟨c2, H⟩ := H
  refine r_iald ((hp 17).trans rfl) (hw.a (i := 110) (by decide) rfl c2.1 c2.2) ?_
  refine am_R.next ((hp 18).trans rfl) rfl ?_
  obtain ⟨y3, ey3⟩ : ∃ z : Int, z = am_w ((h.2.2.2 110 ((am_w (16 + x1)).toNat)) - (h.2.2.2 110 ((am_w (16 + x2)).toNat))) := ⟨_, rfl⟩
  have H := H y3 ey3
  refine am_R.next (lv' := [some (.inr (.inr ((109 : Nat) : Int))), some (.inl x1), some (.inl x2), some (.inl y3)]) (st' := []) (h' := h) (pc' := 20) ((hp 19).trans rfl) (by rw [ey3]; rfl) ?_
  refine am_R.next ((hp 20).trans rfl) rfl ?_
  refine r_if ((hp 21).trans rfl) (fun c4 => ?_) (fun c4 => ?_)
  · have H := H.1 c4
    refine am_R.next ((hp 29).trans rfl) rfl ?_
    exact am_R.ret ((hp 30).trans rfl) rfl H
  · have H := H.2 (Decidable.not_not.mp c4)
    refine am_R.next ((hp 24).trans rfl) rfl ?_
    refine am_R.next ((hp 25).trans rfl) rfl ?_
    refine am_R.next ((hp 26).trans rfl) rfl ?_
    exact am_R.ret ((hp 30).trans rfl) rfl H
theorem w_M_reckons_0 {scr : Nat × (Nat → Int)} {d : Nat} {h : am_H} {Q : Option am_V → am_H → Prop} {x1 x2 x3 x4 : Int} (hs : am_sc scr) (hw : wf h) (H : ∀ h1 : am_H, h1 = am_put h 115 0 x3 → (am_R (am_prog scr) d f_M_lastIn 0 [some (.inl x2)] [] h1 (fun v g2 => ∃ r3 : Int, v = some (.inl r3) ∧ wf g2 ∧ (∀ h4 : am_H, h4 = am_put g2 115 1 r3 → (am_R (am_prog scr) d f_M_soundIn 0 [some (.inl x2)] [] h4 (fun v g5 => ∃ r6 : Int, v = some (.inl r6) ∧ wf g5 ∧ (∀ h7 : am_H, h7 = am_put g5 115 2 r6 → (am_R (am_prog scr) d f_M_lastIn 0 [some (.inl x2)] [] h7 (fun v g8 => ∃ r9 : Int, v = some (.inl r9) ∧ wf g8 ∧ (am_R (am_prog scr) d f_M_farOf 0 [some (.inr (.inr ((109 : Nat) : Int))), some (.inl x3), some (.inl r9), none] [] g8 (fun v g10 => ∃ r11 : Int, v = some (.inl r11) ∧ wf g10 ∧ (∀ h12 : am_H, h12 = am_put g10 115 3 r11 → (am_R (am_prog scr) d f_M_actIn 0 [some (.inl x2)] [] h12 (fun v g13 => ∃ r14 : Int, v = some (.inl r14) ∧ wf g13 ∧ (∀ h15 : am_H, h15 = am_put g13 115 4 r14 → ((0 ≤ (am_w (22 + x3)) ∧ (am_w (22 + x3)) < 3336) ∧ (∀ h17 : am_H, h17 = am_put h15 115 5 (h15.2.2.2 110 ((am_w (22 + x3)).toNat)) → (∀ h18 : am_H, h18 = am_put h17 115 6 x4 → (am_R (am_prog scr) (d + 1) f_M_reckons 82 [some (.inr (.inr ((109 : Nat) : Int))), some (.inl x1), some (.inl x2), some (.inl x3), some (.inl x4), some (.inl 0), some (.inl 0), none] [] h18 Q))))))))))))))))))) : am_R (am_prog scr) (d + 1) f_M_reckons 0 [some (.inr (.inr ((109 : Nat) : Int))), some (.inl x1), some (.inl x2), some (.inl x3), some (.inl x4), none, none, none] [] h Q := by
  have hp : ∀ k, (am_prog scr).1 f_M_reckons k = c_M_reckons k := fun _ => rfl
  refine am_R.next ((hp 0).trans rfl) rfl ?_
  refine r_getR ((hp 1).trans rfl) (hw.o (i := 109) (by decide) rfl) (hw.r wr_109_16) ?_
  refine am_R.next ((hp 4).trans rfl) rfl ?_
  refine am_R.next ((hp 5).trans rfl) rfl ?_
  obtain ⟨h1, eh1⟩ : ∃ z : am_H, z = am_put h 115 0 x3 := ⟨_, rfl⟩
  have H := H h1 eh1
  refine r_iast ((hp 6).trans rfl) (hw.a (i := 115) (by decide) rfl (by decide) (by decide)) ?_
  have hw : wf h1 := by rw [eh1]; exact hw.pa na_115
  change am_R _ _ _ _ _ _ (am_put h 115 0 x3) _
  rw [← eh1]
  refine am_R.next ((hp 7).trans rfl) rfl ?_
  refine r_getR ((hp 8).trans rfl) (hw.o (i := 109) (by decide) rfl) (hw.r wr_109_16) ?_
  refine am_R.next ((hp 11).trans rfl) rfl ?_
  refine am_R.next ((hp 12).trans rfl) rfl ?_
  refine r_cs (as := [.inl x2]) (st' := [.inl 1, .inr (.inr ((115 : Nat) : Int))]) ((hp 13).trans rfl) rfl rfl (Nat.le_of_ble_eq_true rfl) (Nat.le_of_ble_eq_true rfl) (am_R.post H (fun v g2 hq => ?_))
  obtain ⟨r3, rfl, hw, H⟩ := hq
  change am_R _ _ _ _ _ [.inl r3, .inl 1, .inr (.inr ((115 : Nat) : Int))] _ _
  obtain ⟨h4, eh4⟩ : ∃ z : am_H, z = am_put g2 115 1 r3 := ⟨_, rfl⟩
  have H := H h4 eh4
  refine r_iast ((hp 16).trans rfl) (hw.a (i := 115) (by decide) rfl (by decide) (by decide)) ?_
  have hw : wf h4 := by rw [eh4]; exact hw.pa na_115
  change am_R _ _ _ _ _ _ (am_put g2 115 1 r3) _
  rw [← eh4]
  refine am_R.next ((hp 17).trans rfl) rfl ?_
  refine r_getR ((hp 18).trans rfl) (hw.o (i := 109) (by decide) rfl) (hw.r wr_109_16) ?_
  refine am_R.next ((hp 21).trans rfl) rfl ?_
  refine am_R.next ((hp 22).trans rfl) rfl ?_
  refine r_cs (as := [.inl x2]) (st' := [.inl 2, .inr (.inr ((115 : Nat) : Int))]) ((hp 23).trans rfl) rfl rfl (Nat.le_of_ble_eq_true rfl) (Nat.le_of_ble_eq_true rfl) (am_R.post H (fun v g5 hq => ?_))
  obtain ⟨r6, rfl, hw, H⟩ := hq
  change am_R _ _ _ _ _ [.inl r6, .inl 2, .inr (.inr ((115 : Nat) : Int))] _ _
  obtain ⟨h7, eh7⟩ : ∃ z : am_H, z = am_put g5 115 2 r6 := ⟨_, rfl⟩
  have H := H h7 eh7
  refine r_iast ((hp 26).trans rfl) (hw.a (i := 115) (by decide) rfl (by decide) (by decide)) ?_
  have hw : wf h7 := by rw [eh7]; exact hw.pa na_115
  change am_R _ _ _ _ _ _ (am_put g5 115 2 r6) _
  rw [← eh7]
  refine am_R.next ((hp 27).trans rfl) rfl ?_
  refine r_getR ((hp 28).trans rfl) (hw.o (i := 109) (by decide) rfl) (hw.r wr_109_16) ?_
  refine am_R.next ((hp 31).trans rfl) rfl ?_
  refine am_R.next ((hp 32).trans rfl) rfl ?_
  refine am_R.next ((hp 33).trans rfl) rfl ?_
  refine am_R.next ((hp 34).trans rfl) rfl ?_
  refine r_cs (as := [.inl x2]) (st' := [.inl x3, .inr (.inr ((109 : Nat) : Int)), .inl 3, .inr (.inr ((115 : Nat) : Int))]) ((hp 35).trans rfl) rfl rfl (Nat.le_of_ble_eq_true rfl) (Nat.le_of_ble_eq_true rfl) (am_R.post H (fun v g8 hq => ?_))
  obtain ⟨r9, rfl, hw, H⟩ := hq
  change am_R _ _ _ _ _ [.inl r9, .inl x3, .inr (.inr ((109 : Nat) : Int)), .inl 3, .inr (.inr ((115 : Nat) : Int))] _ _
  refine r_cv (bs := [.inl x3, .inl r9]) (st' := [.inl 3, .inr (.inr ((115 : Nat) : Int))]) ((hp 38).trans rfl) (hw.o (i := 109) (by decide) rfl) rfl rfl (Nat.le_of_ble_eq_true rfl) (Nat.le_of_ble_eq_true rfl) (am_R.post H (fun v g10 hq => ?_))
  obtain ⟨r11, rfl, hw, H⟩ := hq
  change am_R _ _ _ _ _ [.inl r11, .inl 3, .inr (.inr ((115 : Nat) : Int))] _ _
  obtain ⟨h12, eh12⟩ : ∃ z : am_H, z = am_put g10 115 3 r11 := ⟨_, rfl⟩
  have H := H h12 eh12
  refine r_iast ((hp 41).trans rfl) (hw.a (i := 115) (by decide) rfl (by decide) (by decide)) ?_
  have hw : wf h12 := by rw [eh12]; exact hw.pa na_115
  change am_R _ _ _ _ _ _ (am_put g10 115 3 r11) _
  rw [← eh12]
  refine am_R.next ((hp 42).trans rfl) rfl ?_
  refine r_getR ((hp 43).trans rfl) (hw.o (i := 109) (by decide) rfl) (hw.r wr_109_16) ?_
  refine am_R.next ((hp 46).trans rfl) rfl ?_
  refine am_R.next ((hp 47).trans rfl) rfl ?_
  refine r_cs (as := [.inl x2]) (st' := [.inl 4, .inr (.inr ((115 : Nat) : Int))]) ((hp 48).trans rfl) rfl rfl (Nat.le_of_ble_eq_true rfl) (Nat.le_of_ble_eq_true rfl) (am_R.post H (fun v g13 hq => ?_))
  obtain ⟨r14, rfl, hw, H⟩ := hq
  change am_R _ _ _ _ _ [.inl r14, .inl 4, .inr (.inr ((115 : Nat) : Int))] _ _
  obtain ⟨h15, eh15⟩ : ∃ z : am_H, z = am_put g13 115 4 r14 := ⟨_, rfl⟩
  have H := H h15 eh15
  refine r_iast ((hp 51).trans rfl) (hw.a (i := 115) (by decide) rfl (by decide) (by decide)) ?_
  have hw : wf h15 := by rw [eh15]; exact hw.pa na_115
  change am_R _ _ _ _ _ _ (am_put g13 115 4 r14) _
  rw [← eh15]
  refine am_R.next ((hp 52).trans rfl) rfl ?_
  refine r_getR ((hp 53).trans rfl) (hw.o (i := 109) (by decide) rfl) (hw.r wr_109_16) ?_
  refine am_R.next ((hp 56).trans rfl) rfl ?_
  refine am_R.next ((hp 57).trans rfl) rfl ?_
  refine r_getR ((hp 58).trans rfl) (hw.o (i := 109) (by decide) rfl) (hw.r wr_109_1) ?_
  refine am_R.next ((hp 61).trans rfl) rfl ?_
  refine am_R.next ((hp 63).trans rfl) rfl ?_
  refine am_R.next ((hp 64).trans rfl) rfl ?_
  obtain ⟨c16, H⟩ := H
  refine r_iald ((hp 65).trans rfl) (hw.a (i := 110) (by decide) rfl c16.1 c16.2) ?_
  obtain ⟨h17, eh17⟩ : ∃ z : am_H, z = am_put h15 115 5 (h15.2.2.2 110 ((am_w (22 + x3)).toNat)) := ⟨_, rfl⟩
  have H := H h17 eh17
  refine r_iast ((hp 66).trans rfl) (hw.a (i := 115) (by decide) rfl (by decide) (by decide)) ?_
  have hw : wf h17 := by rw [eh17]; exact hw.pa na_115
  change am_R _ _ _ _ _ _ (am_put h15 115 5 (h15.2.2.2 110 ((am_w (22 + x3)).toNat))) _
  rw [← eh17]
  refine am_R.next ((hp 67).trans rfl) rfl ?_
  refine r_getR ((hp 68).trans rfl) (hw.o (i := 109) (by decide) rfl) (hw.r wr_109_16) ?_
  refine am_R.next ((hp 71).trans rfl) rfl ?_
  refine am_R.next ((hp 73).trans rfl) rfl ?_
  obtain ⟨h18, eh18⟩ : ∃ z : am_H, z = am_put h17 115 6 x4 := ⟨_, rfl⟩
  have H := H h18 eh18
  refine r_iast ((hp 75).trans rfl) (hw.a (i := 115) (by decide) rfl (by decide) (by decide)) ?_
  have hw : wf h18 := by rw [eh18]; exact hw.pa na_115
  change am_R _ _ _ _ _ _ (am_put h17 115 6 x4) _
  rw [← eh18]
  refine am_R.next ((hp 76).trans rfl) rfl ?_
  refine am_R.next (lv' := [some (.inr (.inr ((109 : Nat) : Int))), some (.inl x1), some (.inl x2), some (.inl x3), some (.inl x4), some (.inl 0), none, none]) ((hp 77).trans rfl) rfl ?_
  refine am_R.next ((hp 79).trans rfl) rfl ?_
  refine am_R.next (lv' := [some (.inr (.inr ((109 : Nat) : Int))), some (.inl x1), some (.inl x2), some (.inl x3), some (.inl x4), some (.inl 0), some (.inl 0), none]) ((hp 80).trans rfl) rfl ?_
  exact H
theorem w_M_reckons_82 {scr : Nat × (Nat → Int)} {d : Nat} {h : am_H} {Q : Option am_V → am_H → Prop} {x1 x2 x3 x4 x5 x6 : Int} (hs : am_sc scr) (hw : wf h) (H : (0 ≤ (am_w (10 + x1)) ∧ (am_w (10 + x1)) < 3336) ∧ ((¬ (x6 < (h.2.2.2 110 ((am_w (10 + x1)).toNat))) → (Q (some (.inl (h.2.2.2 114 0))) h)) ∧ (x6 < (h.2.2.2 110 ((am_w (10 + x1)).toNat)) → ((0 ≤ (am_w (8 + x1)) ∧ (am_w (8 + x1)) < 3336) ∧ ((0 ≤ (am_w ((am_w (212 + (h.2.2.2 110 ((am_w (8 + x1)).toNat)))) + x6)) ∧ (am_w ((am_w (212 + (h.2.2.2 110 ((am_w (8 + x1)).toNat)))) + x6)) < 3336) ∧ (∀ y4 : Int, y4 = h.2.2.2 110 ((am_w ((am_w (212 + (h.2.2.2 110 ((am_w (8 + x1)).toNat)))) + x6)).toNat) → ((¬ (y4 < 3000) → ((¬ (y4 = 3006) → ((¬ (y4 = 3009) → (∀ y5 : Int, y5 = am_w (x5 + (-1)) → ((0 ≤ (am_w (y5 - 1)) ∧ (am_w (y5 - 1)) < 900) ∧ ((0 ≤ y5 ∧ y5 < 900) ∧ (am_R (am_prog scr) d f_M_between 0 [some (.inl y4), some (.inl (h.2.2.2 114 ((am_w (y5 - 1)).toNat))), some (.inl (h.2.2.2 114 y5.toNat)), none, none] [] h (fun v g8 => ∃ r9 : Int, v = some (.inl r9) ∧ wf g8 ∧ (((0 ≤ (am_w (y5 - 1)) ∧ (am_w (y5 - 1)) < 900)) ∧ (∀ h11 : am_H, h11 = am_put g8 114 ((am_w (y5 - 1)).toNat) r9 → (∀ y12 : Int, y12 = am_w (x6 + 1) → (am_R (am_prog scr) (d + 1) f_M_reckons 82 [some (.inr (.inr ((109 : Nat) : Int))), some (.inl x1), some (.inl x2), some (.inl x3), some (.inl x4), some (.inl y5), some (.inl y12), none] [] h11 Q)))))))))) ∧ (y4 = 3009 → (∀ y13 : Int, y13 = am_w (x5 + (-2)) → ((0 ≤ (am_w (y13 - 1)) ∧ (am_w (y13 - 1)) < 900) ∧ ((¬ ((h.2.2.2 114 ((am_w (y13 - 1)).toNat)) = 1) → ((0 ≤ (am_w (y13 + 1)) ∧ (am_w (y13 + 1)) < 900) ∧ (((0 ≤ (am_w (y13 - 1)) ∧ (am_w (y13 - 1)) < 900)) ∧ (∀ h17 : am_H, h17 = am_put h 114 ((am_w (y13 - 1)).toNat) (h.2.2.2 114 ((am_w (y13 + 1)).toNat)) → (∀ y18 : Int, y18 = am_w (x6 + 1) → (am_R (am_prog scr) (d + 1) f_M_reckons 82 [some (.inr (.inr ((109 : Nat) : Int))), some (.inl x1), some (.inl x2), some (.inl x3), some (.inl x4), some (.inl y13), some (.inl y18), none] [] h17 Q)))))) ∧ ((h.2.2.2 114 ((am_w (y13 - 1)).toNat)) = 1 → ((0 ≤ y13 ∧ y13 < 900) ∧ (((0 ≤ (am_w (y13 - 1)) ∧ (am_w (y13 - 1)) < 900)) ∧ (∀ h21 : am_H, h21 = am_put h 114 ((am_w (y13 - 1)).toNat) (h.2.2.2 114 y13.toNat) → (∀ y22 : Int, y22 = am_w (x6 + 1) → (am_R (am_prog scr) (d + 1) f_M_reckons 82 [some (.inr (.inr ((109 : Nat) : Int))), some (.inl x1), some (.inl x2), some (.inl x3), some (.inl x4), some (.inl y13), some (.inl y22), none] [] h21 Q)))))))))))) ∧ (y4 = 3006 → ((0 ≤ (am_w (x5 - 1)) ∧ (am_w (x5 - 1)) < 900) ∧ (((0 ≤ (am_w (x5 - 1)) ∧ (am_w (x5 - 1)) < 900)) ∧ (∀ h27 : am_H, h27 = am_put h 114 ((am_w (x5 - 1)).toNat) (am_w (1 - (h.2.2.2 114 ((am_w (x5 - 1)).toNat)))) → (∀ y28 : Int, y28 = am_w (x6 + 1) → (am_R (am_prog scr) (d + 1) f_M_reckons 82 [some (.inr (.inr ((109 : Nat) : Int))), some (.inl x1), some (.inl x2), some (.inl x3), some (.inl x4), some (.inl x5), some (.inl y28), none] [] h27 Q)))))))) ∧ (y4 < 3000 → ((¬ (y4 < 1000) → ((0 ≤ (am_w (y4 - 1000)) ∧ (am_w (y4 - 1000)) < 7) ∧ (((0 ≤ x5 ∧ x5 < 900)) ∧ (∀ h32 : am_H, h32 = am_put h 114 x5.toNat (h.2.2.2 115 ((am_w (y4 - 1000)).toNat)) → (∀ y33 : Int, y33 = am_w (x5 + 1) → (∀ y34 : Int, y34 = am_w (x6 + 1) → (am_R (am_prog scr) (d + 1) f_M_reckons 82 [some (.inr (.inr ((109 : Nat) : Int))), some (.inl x1), some (.inl x2), some (.inl x3), some (.inl x4), some (.inl y33), some (.inl y34), none] [] h32 Q))))))) ∧ (y4 < 1000 → (((0 ≤ x5 ∧ x5 < 900)) ∧ (∀ h36 : am_H, h36 = am_put h 114 x5.toNat y4 → (∀ y37 : Int, y37 = am_w (x5 + 1) → (∀ y38 : Int, y38 = am_w (x6 + 1) → (am_R (am_prog scr) (d + 1) f_M_reckons 82 [some (.inr (.inr ((109 : Nat) : Int))), some (.inl x1), some (.inl x2), some (.inl x3), some (.inl x4), some (.inl y37), some (.inl y38), none] [] h36 Q))))))))))))))) : am_R (am_prog scr) (d + 1) f_M_reckons 82 [some (.inr (.inr ((109 : Nat) : Int))), some (.inl x1), some (.inl x2), some (.inl x3), some (.inl x4), some (.inl x5), some (.inl x6), none] [] h Q := by
  have hp : ∀ k, (am_prog scr).1 f_M_reckons k = c_M_reckons k := fun _ => rfl
  refine am_R.next ((hp 82).trans rfl) rfl ?_
  refine am_R.next ((hp 84).trans rfl) rfl ?_
  refine r_getR ((hp 85).trans rfl) (hw.o (i := 109) (by decide) rfl) (hw.r wr_109_1) ?_
  refine am_R.next ((hp 88).trans rfl) rfl ?_
  refine am_R.next ((hp 90).trans rfl) rfl ?_
  refine am_R.next ((hp 91).trans rfl) rfl ?_
  obtain ⟨c1, H⟩ := H
  refine r_iald ((hp 92).trans rfl) (hw.a (i := 110) (by decide) rfl c1.1 c1.2) ?_
  refine r_ic ((hp 93).trans rfl) (fun c41 => ?_) (fun c41 => ?_)
  · have H := H.1 c41
    refine am_R.next ((hp 289).trans rfl) rfl ?_
    refine r_getR ((hp 290).trans rfl) (hw.o (i := 109) (by decide) rfl) (hw.r wr_109_15) ?_
    refine am_R.next ((hp 293).trans rfl) rfl ?_
    refine r_iald ((hp 294).trans rfl) (hw.a (i := 114) (by decide) rfl (by decide) (by decide)) ?_
    exact am_R.ret ((hp 295).trans rfl) rfl H
  · have H := H.2 (Decidable.not_not.mp c41)
    refine am_R.next ((hp 96).trans rfl) rfl ?_
    refine r_getR ((hp 97).trans rfl) (hw.o (i := 109) (by decide) rfl) (hw.r wr_109_1) ?_
    refine am_R.next ((hp 100).trans rfl) rfl ?_
    refine am_R.next ((hp 103).trans rfl) rfl ?_
    refine r_getR ((hp 104).trans rfl) (hw.o (i := 109) (by decide) rfl) (hw.r wr_109_1) ?_
    refine am_R.next ((hp 107).trans rfl) rfl ?_
    refine am_R.next ((hp 109).trans rfl) rfl ?_
    refine am_R.next ((hp 110).trans rfl) rfl ?_
    obtain ⟨c2, H⟩ := H
    refine r_iald ((hp 111).trans rfl) (hw.a (i := 110) (by decide) rfl c2.1 c2.2) ?_
    refine am_R.next ((hp 112).trans rfl) rfl ?_
    refine am_R.next ((hp 113).trans rfl) rfl ?_
    refine am_R.next ((hp 115).trans rfl) rfl ?_
    obtain ⟨c3, H⟩ := H
    refine r_iald ((hp 116).trans rfl) (hw.a (i := 110) (by decide) rfl c3.1 c3.2) ?_
    obtain ⟨y4, ey4⟩ : ∃ z : Int, z = h.2.2.2 110 ((am_w ((am_w (212 + (h.2.2.2 110 ((am_w (8 + x1)).toNat)))) + x6)).toNat) := ⟨_, rfl⟩
    have H := H y4 ey4
    refine am_R.next (lv' := [some (.inr (.inr ((109 : Nat) : Int))), some (.inl x1), some (.inl x2), some (.inl x3), some (.inl x4), some (.inl x5), some (.inl x6), some (.inl y4)]) (st' := []) (h' := h) (pc' := 119) ((hp 117).trans rfl) (by rw [ey4]; rfl) ?_
    refine am_R.next ((hp 119).trans rfl) rfl ?_
    refine am_R.next ((hp 121).trans rfl) rfl ?_
    refine r_ic ((hp 124).trans rfl) (fun c40 => ?_) (fun c40 => ?_)
    · have H := H.1 c40
      refine am_R.next ((hp 164).trans rfl) rfl ?_
      refine am_R.next ((hp 166).trans rfl) rfl ?_
      refine r_ic ((hp 169).trans rfl) (fun c29 => ?_) (fun c29 => ?_)
      · have H := H.1 c29
        refine am_R.next ((hp 195).trans rfl) rfl ?_
        refine am_R.next ((hp 197).trans rfl) rfl ?_
        refine r_ic ((hp 200).trans rfl) (fun c24 => ?_) (fun c24 => ?_)
        · have H := H.1 c24
          obtain ⟨y5, ey5⟩ : ∃ z : Int, z = am_w (x5 + (-1)) := ⟨_, rfl⟩
          have H := H y5 ey5
          refine am_R.next (lv' := [some (.inr (.inr ((109 : Nat) : Int))), some (.inl x1), some (.inl x2), some (.inl x3), some (.inl x4), some (.inl y5), some (.inl x6), some (.inl y4)]) (st' := []) (h' := h) (pc' := 253) ((hp 250).trans rfl) (by rw [ey5]; rfl) ?_
          refine am_R.next ((hp 253).trans rfl) rfl ?_
          refine r_getR ((hp 254).trans rfl) (hw.o (i := 109) (by decide) rfl) (hw.r wr_109_15) ?_
          refine am_R.next ((hp 257).trans rfl) rfl ?_
          refine am_R.next ((hp 259).trans rfl) rfl ?_
          refine am_R.next ((hp 260).trans rfl) rfl ?_
          refine am_R.next ((hp 261).trans rfl) rfl ?_
          refine am_R.next ((hp 263).trans rfl) rfl ?_
          refine r_getR ((hp 264).trans rfl) (hw.o (i := 109) (by decide) rfl) (hw.r wr_109_15) ?_
          refine am_R.next ((hp 267).trans rfl) rfl ?_
          refine am_R.next ((hp 269).trans rfl) rfl ?_
          refine am_R.next ((hp 270).trans rfl) rfl ?_
          obtain ⟨c6, H⟩ := H
          refine r_iald ((hp 271).trans rfl) (hw.a (i := 114) (by decide) rfl c6.1 c6.2) ?_
          refine am_R.next ((hp 272).trans rfl) rfl ?_
          refine r_getR ((hp 273).trans rfl) (hw.o (i := 109) (by decide) rfl) (hw.r wr_109_15) ?_
          refine am_R.next ((hp 276).trans rfl) rfl ?_
          obtain ⟨c7, H⟩ := H
          refine r_iald ((hp 278).trans rfl) (hw.a (i := 114) (by decide) rfl c7.1 c7.2) ?_
          refine r_cs (as := [.inl y4, .inl (h.2.2.2 114 ((am_w (y5 - 1)).toNat)), .inl (h.2.2.2 114 y5.toNat)]) (st' := [.inl (am_w (y5 - 1)), .inr (.inr ((114 : Nat) : Int))]) ((hp 279).trans rfl) rfl rfl (Nat.le_of_ble_eq_true rfl) (Nat.le_of_ble_eq_true rfl) (am_R.post H (fun v g8 hq => ?_))
          obtain ⟨r9, rfl, hw, H⟩ := hq
          change am_R _ _ _ _ _ [.inl r9, .inl (am_w (y5 - 1)), .inr (.inr ((114 : Nat) : Int))] _ _
          obtain ⟨c10, H⟩ := H
          obtain ⟨h11, eh11⟩ : ∃ z : am_H, z = am_put g8 114 ((am_w (y5 - 1)).toNat) r9 := ⟨_, rfl⟩
          have H := H h11 eh11
          refine r_iast ((hp 282).trans rfl) (hw.a (i := 114) (by decide) rfl c10.1 c10.2) ?_
          have hw : wf h11 := by rw [eh11]; exact hw.pa na_114
          change am_R _ _ _ _ _ _ (am_put g8 114 ((am_w (y5 - 1)).toNat) r9) _
          rw [← eh11]
          obtain ⟨y12, ey12⟩ : ∃ z : Int, z = am_w (x6 + 1) := ⟨_, rfl⟩
          have H := H y12 ey12
          refine am_R.next (lv' := [some (.inr (.inr ((109 : Nat) : Int))), some (.inl x1), some (.inl x2), some (.inl x3), some (.inl x4), some (.inl y5), some (.inl y12), some (.inl y4)]) (st' := []) (h' := h11) (pc' := 286) ((hp 283).trans rfl) (by rw [ey12]; rfl) ?_
          refine am_R.next ((hp 286).trans rfl) rfl ?_
          exact r_le hs in_46 (le_k (le_k (le_k (le_k (le_k (le_k (le_k (le_d le_n)))))))) H
        · have H := H.2 (Decidable.not_not.mp c24)
          obtain ⟨y13, ey13⟩ : ∃ z : Int, z = am_w (x5 + (-2)) := ⟨_, rfl⟩
          have H := H y13 ey13
          refine am_R.next (lv' := [some (.inr (.inr ((109 : Nat) : Int))), some (.inl x1), some (.inl x2), some (.inl x3), some (.inl x4), some (.inl y13), some (.inl x6), some (.inl y4)]) (st' := []) (h' := h) (pc' := 206) ((hp 203).trans rfl) (by rw [ey13]; rfl) ?_
          refine am_R.next ((hp 206).trans rfl) rfl ?_
          refine r_getR ((hp 207).trans rfl) (hw.o (i := 109) (by decide) rfl) (hw.r wr_109_15) ?_
          refine am_R.next ((hp 210).trans rfl) rfl ?_
          refine am_R.next ((hp 212).trans rfl) rfl ?_
          refine am_R.next ((hp 213).trans rfl) rfl ?_
          refine am_R.next ((hp 214).trans rfl) rfl ?_
          refine r_getR ((hp 215).trans rfl) (hw.o (i := 109) (by decide) rfl) (hw.r wr_109_15) ?_
          refine am_R.next ((hp 218).trans rfl) rfl ?_
          refine am_R.next ((hp 220).trans rfl) rfl ?_
          refine am_R.next ((hp 221).trans rfl) rfl ?_
          obtain ⟨c14, H⟩ := H
          refine r_iald ((hp 222).trans rfl) (hw.a (i := 114) (by decide) rfl c14.1 c14.2) ?_
          refine am_R.next ((hp 223).trans rfl) rfl ?_
          refine r_ic ((hp 224).trans rfl) (fun c23 => ?_) (fun c23 => ?_)
          · have H := H.1 c23
            refine am_R.next ((hp 237).trans rfl) rfl ?_
            refine r_getR ((hp 238).trans rfl) (hw.o (i := 109) (by decide) rfl) (hw.r wr_109_15) ?_
            refine am_R.next ((hp 241).trans rfl) rfl ?_
            refine am_R.next ((hp 243).trans rfl) rfl ?_
            refine am_R.next ((hp 244).trans rfl) rfl ?_
            obtain ⟨c15, H⟩ := H
            refine r_iald ((hp 245).trans rfl) (hw.a (i := 114) (by decide) rfl c15.1 c15.2) ?_
            obtain ⟨c16, H⟩ := H
            obtain ⟨h17, eh17⟩ : ∃ z : am_H, z = am_put h 114 ((am_w (y13 - 1)).toNat) (h.2.2.2 114 ((am_w (y13 + 1)).toNat)) := ⟨_, rfl⟩
            have H := H h17 eh17
            refine r_iast ((hp 246).trans rfl) (hw.a (i := 114) (by decide) rfl c16.1 c16.2) ?_
            have hw : wf h17 := by rw [eh17]; exact hw.pa na_114
            change am_R _ _ _ _ _ _ (am_put h 114 ((am_w (y13 - 1)).toNat) (h.2.2.2 114 ((am_w (y13 + 1)).toNat))) _
            rw [← eh17]
            refine am_R.next ((hp 247).trans rfl) rfl ?_
            obtain ⟨y18, ey18⟩ : ∃ z : Int, z = am_w (x6 + 1) := ⟨_, rfl⟩
            have H := H y18 ey18
            refine am_R.next (lv' := [some (.inr (.inr ((109 : Nat) : Int))), some (.inl x1), some (.inl x2), some (.inl x3), some (.inl x4), some (.inl y13), some (.inl y18), some (.inl y4)]) (st' := []) (h' := h17) (pc' := 286) ((hp 283).trans rfl) (by rw [ey18]; rfl) ?_
            refine am_R.next ((hp 286).trans rfl) rfl ?_
            exact r_le hs in_46 (le_k (le_k (le_k (le_k (le_k (le_k (le_k (le_d le_n)))))))) H
          · have H := H.2 (Decidable.not_not.mp c23)
            refine am_R.next ((hp 227).trans rfl) rfl ?_
            refine r_getR ((hp 228).trans rfl) (hw.o (i := 109) (by decide) rfl) (hw.r wr_109_15) ?_
            refine am_R.next ((hp 231).trans rfl) rfl ?_
            obtain ⟨c19, H⟩ := H
            refine r_iald ((hp 233).trans rfl) (hw.a (i := 114) (by decide) rfl c19.1 c19.2) ?_
            refine am_R.next ((hp 234).trans rfl) rfl ?_
            obtain ⟨c20, H⟩ := H
            obtain ⟨h21, eh21⟩ : ∃ z : am_H, z = am_put h 114 ((am_w (y13 - 1)).toNat) (h.2.2.2 114 y13.toNat) := ⟨_, rfl⟩
            have H := H h21 eh21
            refine r_iast ((hp 246).trans rfl) (hw.a (i := 114) (by decide) rfl c20.1 c20.2) ?_
            have hw : wf h21 := by rw [eh21]; exact hw.pa na_114
            change am_R _ _ _ _ _ _ (am_put h 114 ((am_w (y13 - 1)).toNat) (h.2.2.2 114 y13.toNat)) _
            rw [← eh21]
            refine am_R.next ((hp 247).trans rfl) rfl ?_
            obtain ⟨y22, ey22⟩ : ∃ z : Int, z = am_w (x6 + 1) := ⟨_, rfl⟩
            have H := H y22 ey22
            refine am_R.next (lv' := [some (.inr (.inr ((109 : Nat) : Int))), some (.inl x1), some (.inl x2), some (.inl x3), some (.inl x4), some (.inl y13), some (.inl y22), some (.inl y4)]) (st' := []) (h' := h21) (pc' := 286) ((hp 283).trans rfl) (by rw [ey22]; rfl) ?_
            refine am_R.next ((hp 286).trans rfl) rfl ?_
            exact r_le hs in_46 (le_k (le_k (le_k (le_k (le_k (le_k (le_k (le_d le_n)))))))) H
      · have H := H.2 (Decidable.not_not.mp c29)
        refine am_R.next ((hp 172).trans rfl) rfl ?_
        refine r_getR ((hp 173).trans rfl) (hw.o (i := 109) (by decide) rfl) (hw.r wr_109_15) ?_
        refine am_R.next ((hp 176).trans rfl) rfl ?_
        refine am_R.next ((hp 178).trans rfl) rfl ?_
        refine am_R.next ((hp 179).trans rfl) rfl ?_
        refine am_R.next ((hp 180).trans rfl) rfl ?_
        refine am_R.next ((hp 181).trans rfl) rfl ?_
        refine r_getR ((hp 182).trans rfl) (hw.o (i := 109) (by decide) rfl) (hw.r wr_109_15) ?_
        refine am_R.next ((hp 185).trans rfl) rfl ?_
        refine am_R.next ((hp 187).trans rfl) rfl ?_
        refine am_R.next ((hp 188).trans rfl) rfl ?_
        obtain ⟨c25, H⟩ := H
        refine r_iald ((hp 189).trans rfl) (hw.a (i := 114) (by decide) rfl c25.1 c25.2) ?_
        refine am_R.next ((hp 190).trans rfl) rfl ?_
        obtain ⟨c26, H⟩ := H
        obtain ⟨h27, eh27⟩ : ∃ z : am_H, z = am_put h 114 ((am_w (x5 - 1)).toNat) (am_w (1 - (h.2.2.2 114 ((am_w (x5 - 1)).toNat)))) := ⟨_, rfl⟩
        have H := H h27 eh27
        refine r_iast ((hp 191).trans rfl) (hw.a (i := 114) (by decide) rfl c26.1 c26.2) ?_
        have hw : wf h27 := by rw [eh27]; exact hw.pa na_114
        change am_R _ _ _ _ _ _ (am_put h 114 ((am_w (x5 - 1)).toNat) (am_w (1 - (h.2.2.2 114 ((am_w (x5 - 1)).toNat))))) _
        rw [← eh27]
        refine am_R.next ((hp 192).trans rfl) rfl ?_
        obtain ⟨y28, ey28⟩ : ∃ z : Int, z = am_w (x6 + 1) := ⟨_, rfl⟩
        have H := H y28 ey28
        refine am_R.next (lv' := [some (.inr (.inr ((109 : Nat) : Int))), some (.inl x1), some (.inl x2), some (.inl x3), some (.inl x4), some (.inl x5), some (.inl y28), some (.inl y4)]) (st' := []) (h' := h27) (pc' := 286) ((hp 283).trans rfl) (by rw [ey28]; rfl) ?_
        refine am_R.next ((hp 286).trans rfl) rfl ?_
        exact r_le hs in_46 (le_k (le_k (le_k (le_k (le_k (le_k (le_k (le_d le_n)))))))) H
    · have H := H.2 (Decidable.not_not.mp c40)
      refine am_R.next ((hp 127).trans rfl) rfl ?_
      refine r_getR ((hp 128).trans rfl) (hw.o (i := 109) (by decide) rfl) (hw.r wr_109_15) ?_
      refine am_R.next ((hp 131).trans rfl) rfl ?_
      refine am_R.next ((hp 133).trans rfl) rfl ?_
      refine am_R.next ((hp 135).trans rfl) rfl ?_
      refine r_ic ((hp 138).trans rfl) (fun c39 => ?_) (fun c39 => ?_)
      · have H := H.1 c39
        refine am_R.next ((hp 146).trans rfl) rfl ?_
        refine r_getR ((hp 147).trans rfl) (hw.o (i := 109) (by decide) rfl) (hw.r wr_109_16) ?_
        refine am_R.next ((hp 150).trans rfl) rfl ?_
        refine am_R.next ((hp 152).trans rfl) rfl ?_
        refine am_R.next ((hp 155).trans rfl) rfl ?_
        obtain ⟨c30, H⟩ := H
        refine r_iald ((hp 156).trans rfl) (hw.a (i := 115) (by decide) rfl c30.1 c30.2) ?_
        obtain ⟨c31, H⟩ := H
        obtain ⟨h32, eh32⟩ : ∃ z : am_H, z = am_put h 114 x5.toNat (h.2.2.2 115 ((am_w (y4 - 1000)).toNat)) := ⟨_, rfl⟩
        have H := H h32 eh32
        refine r_iast ((hp 157).trans rfl) (hw.a (i := 114) (by decide) rfl c31.1 c31.2) ?_
        have hw : wf h32 := by rw [eh32]; exact hw.pa na_114
        change am_R _ _ _ _ _ _ (am_put h 114 x5.toNat (h.2.2.2 115 ((am_w (y4 - 1000)).toNat))) _
        rw [← eh32]
        obtain ⟨y33, ey33⟩ : ∃ z : Int, z = am_w (x5 + 1) := ⟨_, rfl⟩
        have H := H y33 ey33
        refine am_R.next (lv' := [some (.inr (.inr ((109 : Nat) : Int))), some (.inl x1), some (.inl x2), some (.inl x3), some (.inl x4), some (.inl y33), some (.inl x6), some (.inl y4)]) (st' := []) (h' := h32) (pc' := 161) ((hp 158).trans rfl) (by rw [ey33]; rfl) ?_
        refine am_R.next ((hp 161).trans rfl) rfl ?_
        obtain ⟨y34, ey34⟩ : ∃ z : Int, z = am_w (x6 + 1) := ⟨_, rfl⟩
        have H := H y34 ey34
        refine am_R.next (lv' := [some (.inr (.inr ((109 : Nat) : Int))), some (.inl x1), some (.inl x2), some (.inl x3), some (.inl x4), some (.inl y33), some (.inl y34), some (.inl y4)]) (st' := []) (h' := h32) (pc' := 286) ((hp 283).trans rfl) (by rw [ey34]; rfl) ?_
        refine am_R.next ((hp 286).trans rfl) rfl ?_
        exact r_le hs in_46 (le_k (le_k (le_k (le_k (le_k (le_k (le_k (le_d le_n)))))))) H
      · have H := H.2 (Decidable.not_not.mp c39)
        refine am_R.next ((hp 141).trans rfl) rfl ?_
        refine am_R.next ((hp 143).trans rfl) rfl ?_
        obtain ⟨c35, H⟩ := H
        obtain ⟨h36, eh36⟩ : ∃ z : am_H, z = am_put h 114 x5.toNat y4 := ⟨_, rfl⟩
        have H := H h36 eh36
        refine r_iast ((hp 157).trans rfl) (hw.a (i := 114) (by decide) rfl c35.1 c35.2) ?_
        have hw : wf h36 := by rw [eh36]; exact hw.pa na_114
        change am_R _ _ _ _ _ _ (am_put h 114 x5.toNat y4) _
        rw [← eh36]
        obtain ⟨y37, ey37⟩ : ∃ z : Int, z = am_w (x5 + 1) := ⟨_, rfl⟩
        have H := H y37 ey37
        refine am_R.next (lv' := [some (.inr (.inr ((109 : Nat) : Int))), some (.inl x1), some (.inl x2), some (.inl x3), some (.inl x4), some (.inl y37), some (.inl x6), some (.inl y4)]) (st' := []) (h' := h36) (pc' := 161) ((hp 158).trans rfl) (by rw [ey37]; rfl) ?_
        refine am_R.next ((hp 161).trans rfl) rfl ?_
        obtain ⟨y38, ey38⟩ : ∃ z : Int, z = am_w (x6 + 1) := ⟨_, rfl⟩
        have H := H y38 ey38
        refine am_R.next (lv' := [some (.inr (.inr ((109 : Nat) : Int))), some (.inl x1), some (.inl x2), some (.inl x3), some (.inl x4), some (.inl y37), some (.inl y38), some (.inl y4)]) (st' := []) (h' := h36) (pc' := 286) ((hp 283).trans rfl) (by rw [ey38]; rfl) ?_
        refine am_R.next ((hp 286).trans rfl) rfl ?_
        exact r_le hs in_46 (le_k (le_k (le_k (le_k (le_k (le_k (le_k (le_d le_n)))))))) H
theorem w_M_wouldOf_0 {scr : Nat × (Nat → Int)} {d : Nat} {h : am_H} {Q : Option am_V → am_H → Prop} {x1 x2 x3 : Int} (hs : am_sc scr) (hw : wf h) (H : (¬ ((h.2.2.2 110 6) = 1) → (am_R (am_prog scr) d f_M_lastIn 0 [some (.inl x1)] [] h (fun v g1 => ∃ r2 : Int, v = some (.inl r2) ∧ wf g1 ∧ (am_R (am_prog scr) d f_M_farOf 0 [some (.inr (.inr ((109 : Nat) : Int))), some (.inl x2), some (.inl r2), none] [] g1 (fun v g3 => ∃ r4 : Int, v = some (.inl r4) ∧ wf g3 ∧ (Q (some (.inl (am_w (10 - r4)))) g3)))))) ∧ ((h.2.2.2 110 6) = 1 → (am_R (am_prog scr) d f_M_reckons 0 [some (.inr (.inr ((109 : Nat) : Int))), some (.inl 0), some (.inl x1), some (.inl x2), some (.inl x3), none, none, none] [] h (fun v g5 => ∃ r6 : Int, v = some (.inl r6) ∧ wf g5 ∧ (Q (some (.inl r6)) g5))))) : am_R (am_prog scr) (d + 1) f_M_wouldOf 0 [some (.inr (.inr ((109 : Nat) : Int))), some (.inl x1), some (.inl x2), some (.inl x3)] [] h Q := by
  have hp : ∀ k, (am_prog scr).1 f_M_wouldOf k = c_M_wouldOf k := fun _ => rfl
  refine am_R.next ((hp 0).trans rfl) rfl ?_
  refine r_getR ((hp 1).trans rfl) (hw.o (i := 109) (by decide) rfl) (hw.r wr_109_1) ?_
  refine am_R.next ((hp 4).trans rfl) rfl ?_
  refine r_iald ((hp 6).trans rfl) (hw.a (i := 110) (by decide) rfl (by decide) (by decide)) ?_
  refine am_R.next ((hp 7).trans rfl) rfl ?_
  refine r_ic ((hp 8).trans rfl) (fun c7 => ?_) (fun c7 => ?_)
  · have H := H.1 c7
    refine am_R.next ((hp 22).trans rfl) rfl ?_
    refine am_R.next ((hp 24).trans rfl) rfl ?_
    refine am_R.next ((hp 25).trans rfl) rfl ?_
    refine am_R.next ((hp 26).trans rfl) rfl ?_
    refine r_cs (as := [.inl x1]) (st' := [.inl x2, .inr (.inr ((109 : Nat) : Int)), .inl 10]) ((hp 27).trans rfl) rfl rfl (Nat.le_of_ble_eq_true rfl) (Nat.le_of_ble_eq_true rfl) (am_R.post H (fun v g1 hq => ?_))
    obtain ⟨r2, rfl, hw, H⟩ := hq
    change am_R _ _ _ _ _ [.inl r2, .inl x2, .inr (.inr ((109 : Nat) : Int)), .inl 10] _ _
    refine r_cv (bs := [.inl x2, .inl r2]) (st' := [.inl 10]) ((hp 30).trans rfl) (hw.o (i := 109) (by decide) rfl) rfl rfl (Nat.le_of_ble_eq_true rfl) (Nat.le_of_ble_eq_true rfl) (am_R.post H (fun v g3 hq => ?_))
    obtain ⟨r4, rfl, hw, H⟩ := hq
    change am_R _ _ _ _ _ [.inl r4, .inl 10] _ _
    refine am_R.next ((hp 33).trans rfl) rfl ?_
    exact am_R.ret ((hp 34).trans rfl) rfl H
  · have H := H.2 (Decidable.not_not.mp c7)
    refine am_R.next ((hp 11).trans rfl) rfl ?_
    refine am_R.next ((hp 12).trans rfl) rfl ?_
    refine am_R.next ((hp 13).trans rfl) rfl ?_
    refine am_R.next ((hp 14).trans rfl) rfl ?_
    refine am_R.next ((hp 15).trans rfl) rfl ?_
    refine r_cv (bs := [.inl 0, .inl x1, .inl x2, .inl x3]) (st' := []) ((hp 16).trans rfl) (hw.o (i := 109) (by decide) rfl) rfl rfl (Nat.le_of_ble_eq_true rfl) (Nat.le_of_ble_eq_true rfl) (am_R.post H (fun v g5 hq => ?_))
    obtain ⟨r6, rfl, hw, H⟩ := hq
    change am_R _ _ _ _ _ [.inl r6] _ _
    refine am_R.next ((hp 19).trans rfl) rfl ?_
    exact am_R.ret ((hp 34).trans rfl) rfl H
theorem w_M_snorer_0 {scr : Nat × (Nat → Int)} {d : Nat} {h : am_H} {Q : Option am_V → am_H → Prop} {x1 x2 x3 : Int} (hs : am_sc scr) (hw : wf h) (H : am_R (am_prog scr) (d + 1) f_M_snorer 9 [some (.inr (.inr ((109 : Nat) : Int))), some (.inl x1), some (.inl x2), some (.inl x3), some (.inl (-1)), some (.inl 0), some (.inl 0), none] [] h Q) : am_R (am_prog scr) (d + 1) f_M_snorer 0 [some (.inr (.inr ((109 : Nat) : Int))), some (.inl x1), some (.inl x2), some (.inl x3), none, none, none, none] [] h Q := by
  have hp : ∀ k, (am_prog scr).1 f_M_snorer k = c_M_snorer k := fun _ => rfl
  refine am_R.next ((hp 0).trans rfl) rfl ?_
  refine am_R.next (lv' := [some (.inr (.inr ((109 : Nat) : Int))), some (.inl x1), some (.inl x2), some (.inl x3), some (.inl (-1)), none, none, none]) ((hp 1).trans rfl) rfl ?_
  refine am_R.next ((hp 3).trans rfl) rfl ?_
  refine am_R.next (lv' := [some (.inr (.inr ((109 : Nat) : Int))), some (.inl x1), some (.inl x2), some (.inl x3), some (.inl (-1)), some (.inl 0), none, none]) ((hp 4).trans rfl) rfl ?_
  refine am_R.next ((hp 6).trans rfl) rfl ?_
  refine am_R.next (lv' := [some (.inr (.inr ((109 : Nat) : Int))), some (.inl x1), some (.inl x2), some (.inl x3), some (.inl (-1)), some (.inl 0), some (.inl 0), none]) ((hp 7).trans rfl) rfl ?_
  exact H
theorem w_M_snorer_9 {scr : Nat × (Nat → Int)} {d : Nat} {h : am_H} {Q : Option am_V → am_H → Prop} {x1 x2 x3 x4 x5 x6 : Int} (hs : am_sc scr) (hw : wf h) (H : (¬ (x6 < (h.2.2.2 110 4)) → (Q (some (.inl x4)) h)) ∧ (x6 < (h.2.2.2 110 4) → (am_R (am_prog scr) d f_M_lastIn 0 [some (.inl x1)] [] h (fun v g1 => ∃ r2 : Int, v = some (.inl r2) ∧ wf g1 ∧ ((x6 = r2 → (∀ y3 : Int, y3 = am_w (x6 + 1) → (am_R (am_prog scr) (d + 1) f_M_snorer 9 [some (.inr (.inr ((109 : Nat) : Int))), some (.inl x1), some (.inl x2), some (.inl x3), some (.inl x4), some (.inl x5), some (.inl y3), none] [] g1 Q))) ∧ (¬ (x6 = r2) → ((¬ (x6 = x2) → (am_R (am_prog scr) d f_M_wouldOf 0 [some (.inr (.inr ((109 : Nat) : Int))), some (.inl x1), some (.inl x6), some (.inl x3)] [] g1 (fun v g4 => ∃ r5 : Int, v = some (.inl r5) ∧ wf g4 ∧ ((x5 < r5 → (∀ y6 : Int, y6 = am_w (x6 + 1) → (am_R (am_prog scr) (d + 1) f_M_snorer 9 [some (.inr (.inr ((109 : Nat) : Int))), some (.inl x1), some (.inl x2), some (.inl x3), some (.inl x6), some (.inl r5), some (.inl y6), none] [] g4 Q))) ∧ (¬ (x5 < r5) → (∀ y7 : Int, y7 = am_w (x6 + 1) → (am_R (am_prog scr) (d + 1) f_M_snorer 9 [some (.inr (.inr ((109 : Nat) : Int))), some (.inl x1), some (.inl x2), some (.inl x3), some (.inl x4), some (.inl x5), some (.inl y7), none] [] g4 Q))))))) ∧ (x6 = x2 → (∀ y9 : Int, y9 = am_w (x6 + 1) → (am_R (am_prog scr) (d + 1) f_M_snorer 9 [some (.inr (.inr ((109 : Nat) : Int))), some (.inl x1), some (.inl x2), some (.inl x3), some (.inl x4), some (.inl x5), some (.inl y9), none] [] g1 Q)))))))))) : am_R (am_prog scr) (d + 1) f_M_snorer 9 [some (.inr (.inr ((109 : Nat) : Int))), some (.inl x1), some (.inl x2), some (.inl x3), some (.inl x4), some (.inl x5), some (.inl x6), none] [] h Q := by
  have hp : ∀ k, (am_prog scr).1 f_M_snorer k = c_M_snorer k := fun _ => rfl
  refine am_R.next ((hp 9).trans rfl) rfl ?_
  refine am_R.next ((hp 11).trans rfl) rfl ?_
  refine r_getR ((hp 12).trans rfl) (hw.o (i := 109) (by decide) rfl) (hw.r wr_109_1) ?_
  refine am_R.next ((hp 15).trans rfl) rfl ?_
  refine r_iald ((hp 16).trans rfl) (hw.a (i := 110) (by decide) rfl (by decide) (by decide)) ?_
  refine r_ic ((hp 17).trans rfl) (fun c12 => ?_) (fun c12 => ?_)
  · have H := H.1 c12
    refine am_R.next ((hp 72).trans rfl) rfl ?_
    exact am_R.ret ((hp 74).trans rfl) rfl H
  · have H := H.2 (Decidable.not_not.mp c12)
    refine am_R.next ((hp 20).trans rfl) rfl ?_
    refine am_R.next ((hp 22).trans rfl) rfl ?_
    refine r_cs (as := [.inl x1]) (st' := [.inl x6]) ((hp 23).trans rfl) rfl rfl (Nat.le_of_ble_eq_true rfl) (Nat.le_of_ble_eq_true rfl) (am_R.post H (fun v g1 hq => ?_))
    obtain ⟨r2, rfl, hw, H⟩ := hq
    change am_R _ _ _ _ _ [.inl r2, .inl x6] _ _
    refine r_ic ((hp 26).trans rfl) (fun c11 => ?_) (fun c11 => ?_)
    · have H := H.1 c11
      obtain ⟨y3, ey3⟩ : ∃ z : Int, z = am_w (x6 + 1) := ⟨_, rfl⟩
      have H := H y3 ey3
      refine am_R.next (lv' := [some (.inr (.inr ((109 : Nat) : Int))), some (.inl x1), some (.inl x2), some (.inl x3), some (.inl x4), some (.inl x5), some (.inl y3), none]) (st' := []) (h' := g1) (pc' := 69) ((hp 66).trans rfl) (by rw [ey3]; rfl) ?_
      refine am_R.next ((hp 69).trans rfl) rfl ?_
      exact H
    · have H := H.2 c11
      refine am_R.next ((hp 29).trans rfl) rfl ?_
      refine am_R.next ((hp 31).trans rfl) rfl ?_
      refine r_ic ((hp 32).trans rfl) (fun c10 => ?_) (fun c10 => ?_)
      · have H := H.1 c10
        refine am_R.next ((hp 38).trans rfl) rfl ?_
        refine am_R.next ((hp 39).trans rfl) rfl ?_
        refine am_R.next ((hp 40).trans rfl) rfl ?_
        refine am_R.next ((hp 42).trans rfl) rfl ?_
        refine r_cv (bs := [.inl x1, .inl x6, .inl x3]) (st' := []) ((hp 43).trans rfl) (hw.o (i := 109) (by decide) rfl) rfl rfl (Nat.le_of_ble_eq_true rfl) (Nat.le_of_ble_eq_true rfl) (am_R.post H (fun v g4 hq => ?_))
        obtain ⟨r5, rfl, hw, H⟩ := hq
        change am_R _ _ _ _ _ [.inl r5] _ _
        refine am_R.next (lv' := [some (.inr (.inr ((109 : Nat) : Int))), some (.inl x1), some (.inl x2), some (.inl x3), some (.inl x4), some (.inl x5), some (.inl x6), some (.inl r5)]) ((hp 46).trans rfl) rfl ?_
        refine am_R.next ((hp 48).trans rfl) rfl ?_
        refine am_R.next ((hp 50).trans rfl) rfl ?_
        refine r_ic ((hp 52).trans rfl) (fun c8 => ?_) (fun c8 => ?_)
        · have H := H.1 c8
          refine am_R.next ((hp 58).trans rfl) rfl ?_
          refine am_R.next (lv' := [some (.inr (.inr ((109 : Nat) : Int))), some (.inl x1), some (.inl x2), some (.inl x3), some (.inl x6), some (.inl x5), some (.inl x6), some (.inl r5)]) ((hp 60).trans rfl) rfl ?_
          refine am_R.next ((hp 62).trans rfl) rfl ?_
          refine am_R.next (lv' := [some (.inr (.inr ((109 : Nat) : Int))), some (.inl x1), some (.inl x2), some (.inl x3), some (.inl x6), some (.inl r5), some (.inl x6), some (.inl r5)]) ((hp 64).trans rfl) rfl ?_
          obtain ⟨y6, ey6⟩ : ∃ z : Int, z = am_w (x6 + 1) := ⟨_, rfl⟩
          have H := H y6 ey6
          refine am_R.next (lv' := [some (.inr (.inr ((109 : Nat) : Int))), some (.inl x1), some (.inl x2), some (.inl x3), some (.inl x6), some (.inl r5), some (.inl y6), some (.inl r5)]) (st' := []) (h' := g4) (pc' := 69) ((hp 66).trans rfl) (by rw [ey6]; rfl) ?_
          refine am_R.next ((hp 69).trans rfl) rfl ?_
          exact r_le hs in_48 (le_k (le_k (le_k (le_k (le_k (le_k (le_k (le_d le_n)))))))) H
        · have H := H.2 c8
          refine am_R.next ((hp 55).trans rfl) rfl ?_
          obtain ⟨y7, ey7⟩ : ∃ z : Int, z = am_w (x6 + 1) := ⟨_, rfl⟩
          have H := H y7 ey7
          refine am_R.next (lv' := [some (.inr (.inr ((109 : Nat) : Int))), some (.inl x1), some (.inl x2), some (.inl x3), some (.inl x4), some (.inl x5), some (.inl y7), some (.inl r5)]) (st' := []) (h' := g4) (pc' := 69) ((hp 66).trans rfl) (by rw [ey7]; rfl) ?_
          refine am_R.next ((hp 69).trans rfl) rfl ?_
          exact r_le hs in_48 (le_k (le_k (le_k (le_k (le_k (le_k (le_k (le_d le_n)))))))) H
      · have H := H.2 (Decidable.not_not.mp c10)
        refine am_R.next ((hp 35).trans rfl) rfl ?_
        obtain ⟨y9, ey9⟩ : ∃ z : Int, z = am_w (x6 + 1) := ⟨_, rfl⟩
        have H := H y9 ey9
        refine am_R.next (lv' := [some (.inr (.inr ((109 : Nat) : Int))), some (.inl x1), some (.inl x2), some (.inl x3), some (.inl x4), some (.inl x5), some (.inl y9), none]) (st' := []) (h' := g1) (pc' := 69) ((hp 66).trans rfl) (by rw [ey9]; rfl) ?_
        refine am_R.next ((hp 69).trans rfl) rfl ?_
        exact H
theorem w_M_beatTo_0 {scr : Nat × (Nat → Int)} {d : Nat} {h : am_H} {Q : Option am_V → am_H → Prop} {x1 x2 x3 : Int} (hs : am_sc scr) (hw : wf h) (H : am_R (am_prog scr) d f_M_snorer 0 [some (.inr (.inr ((109 : Nat) : Int))), some (.inl x1), some (.inl x2), some (.inl x3), none, none, none, none] [] h (fun v g1 => ∃ r2 : Int, v = some (.inl r2) ∧ wf g1 ∧ ((¬ (r2 = (-1)) → ((¬ ((g1.2.2.2 110 7) = 1) → (am_R (am_prog scr) d f_M_soundIn 0 [some (.inl x1)] [] g1 (fun v g3 => ∃ r4 : Int, v = some (.inl r4) ∧ wf g3 ∧ ((0 ≤ (am_w (22 + r2)) ∧ (am_w (22 + r2)) < 3336) ∧ (∀ y6 : Int, y6 = am_w (r4 + (g3.2.2.2 110 ((am_w (22 + r2)).toNat))) → ((g3.2.2.2 110 2) ≠ 0 ∧ (∀ y7 : Int, y7 = y6.tmod (g3.2.2.2 110 2) → ((¬ (y7 < 0) → (am_R (am_prog scr) d f_M_actIn 0 [some (.inl x1)] [] g3 (fun v g8 => ∃ r9 : Int, v = some (.inl r9) ∧ wf g8 ∧ ((¬ (y7 = (g8.2.2.2 110 5)) → (am_R (am_prog scr) d f_M_standOf 0 [some (.inl (am_w (r9 + 0))), some (.inl r2), some (.inl y7), some (.inl 0)] [] g8 (fun v g10 => ∃ r11 : Int, v = some (.inl r11) ∧ wf g10 ∧ (Q (some (.inl r11)) g10)))) ∧ (y7 = (g8.2.2.2 110 5) → (am_R (am_prog scr) d f_M_standOf 0 [some (.inl (am_w (r9 + 1))), some (.inl r2), some (.inl y7), some (.inl 0)] [] g8 (fun v g12 => ∃ r13 : Int, v = some (.inl r13) ∧ wf g12 ∧ (Q (some (.inl r13)) g12)))))))) ∧ (y7 < 0 → (∀ y15 : Int, y15 = am_w (y7 + (g3.2.2.2 110 2)) → (am_R (am_prog scr) d f_M_actIn 0 [some (.inl x1)] [] g3 (fun v g16 => ∃ r17 : Int, v = some (.inl r17) ∧ wf g16 ∧ ((¬ (y15 = (g16.2.2.2 110 5)) → (am_R (am_prog scr) d f_M_standOf 0 [some (.inl (am_w (r17 + 0))), some (.inl r2), some (.inl y15), some (.inl 0)] [] g16 (fun v g18 => ∃ r19 : Int, v = some (.inl r19) ∧ wf g18 ∧ (Q (some (.inl r19)) g18)))) ∧ (y15 = (g16.2.2.2 110 5) → (am_R (am_prog scr) d f_M_standOf 0 [some (.inl (am_w (r17 + 1))), some (.inl r2), some (.inl y15), some (.inl 0)] [] g16 (fun v g20 => ∃ r21 : Int, v = some (.inl r21) ∧ wf g20 ∧ (Q (some (.inl r21)) g20))))))))))))))))) ∧ ((g1.2.2.2 110 7) = 1 → (am_R (am_prog scr) d f_M_reckons 0 [some (.inr (.inr ((109 : Nat) : Int))), some (.inl 1), some (.inl x1), some (.inl r2), some (.inl x3), none, none, none] [] g1 (fun v g25 => ∃ r26 : Int, v = some (.inl r26) ∧ wf g25 ∧ ((g25.2.2.2 110 2) ≠ 0 ∧ (∀ y27 : Int, y27 = r26.tmod (g25.2.2.2 110 2) → ((¬ (y27 < 0) → (am_R (am_prog scr) d f_M_actIn 0 [some (.inl x1)] [] g25 (fun v g28 => ∃ r29 : Int, v = some (.inl r29) ∧ wf g28 ∧ ((¬ (y27 = (g28.2.2.2 110 5)) → (am_R (am_prog scr) d f_M_standOf 0 [some (.inl (am_w (r29 + 0))), some (.inl r2), some (.inl y27), some (.inl 0)] [] g28 (fun v g30 => ∃ r31 : Int, v = some (.inl r31) ∧ wf g30 ∧ (Q (some (.inl r31)) g30)))) ∧ (y27 = (g28.2.2.2 110 5) → (am_R (am_prog scr) d f_M_standOf 0 [some (.inl (am_w (r29 + 1))), some (.inl r2), some (.inl y27), some (.inl 0)] [] g28 (fun v g32 => ∃ r33 : Int, v = some (.inl r33) ∧ wf g32 ∧ (Q (some (.inl r33)) g32)))))))) ∧ (y27 < 0 → (∀ y35 : Int, y35 = am_w (y27 + (g25.2.2.2 110 2)) → (am_R (am_prog scr) d f_M_actIn 0 [some (.inl x1)] [] g25 (fun v g36 => ∃ r37 : Int, v = some (.inl r37) ∧ wf g36 ∧ ((¬ (y35 = (g36.2.2.2 110 5)) → (am_R (am_prog scr) d f_M_standOf 0 [some (.inl (am_w (r37 + 0))), some (.inl r2), some (.inl y35), some (.inl 0)] [] g36 (fun v g38 => ∃ r39 : Int, v = some (.inl r39) ∧ wf g38 ∧ (Q (some (.inl r39)) g38)))) ∧ (y35 = (g36.2.2.2 110 5) → (am_R (am_prog scr) d f_M_standOf 0 [some (.inl (am_w (r37 + 1))), some (.inl r2), some (.inl y35), some (.inl 0)] [] g36 (fun v g40 => ∃ r41 : Int, v = some (.inl r41) ∧ wf g40 ∧ (Q (some (.inl r41)) g40))))))))))))))))) ∧ (r2 = (-1) → (Q (some (.inl (am_w (x1 + 1)))) g1))))) : am_R (am_prog scr) (d + 1) f_M_beatTo 0 [some (.inr (.inr ((109 : Nat) : Int))), some (.inl x1), some (.inl x2), some (.inl x3), none, none, none] [] h Q := by
  have hp : ∀ k, (am_prog scr).1 f_M_beatTo k = c_M_beatTo k := fun _ => rfl
  refine am_R.next ((hp 0).trans rfl) rfl ?_
  refine am_R.next ((hp 1).trans rfl) rfl ?_
  refine am_R.next ((hp 2).trans rfl) rfl ?_
  refine am_R.next ((hp 3).trans rfl) rfl ?_
  refine r_cv (bs := [.inl x1, .inl x2, .inl x3]) (st' := []) ((hp 4).trans rfl) (hw.o (i := 109) (by decide) rfl) rfl rfl (Nat.le_of_ble_eq_true rfl) (Nat.le_of_ble_eq_true rfl) (am_R.post H (fun v g1 hq => ?_))
  obtain ⟨r2, rfl, hw, H⟩ := hq
  change am_R _ _ _ _ _ [.inl r2] _ _
  refine am_R.next (lv' := [some (.inr (.inr ((109 : Nat) : Int))), some (.inl x1), some (.inl x2), some (.inl x3), some (.inl r2), none, none]) ((hp 7).trans rfl) rfl ?_
  refine am_R.next ((hp 9).trans rfl) rfl ?_
  refine am_R.next ((hp 11).trans rfl) rfl ?_
  refine r_ic ((hp 12).trans rfl) (fun c46 => ?_) (fun c46 => ?_)
  · have H := H.1 c46
    refine am_R.next ((hp 19).trans rfl) rfl ?_
    refine r_getR ((hp 20).trans rfl) (hw.o (i := 109) (by decide) rfl) (hw.r wr_109_1) ?_
    refine am_R.next ((hp 23).trans rfl) rfl ?_
    refine r_iald ((hp 25).trans rfl) (hw.a (i := 110) (by decide) rfl (by decide) (by decide)) ?_
    refine am_R.next ((hp 26).trans rfl) rfl ?_
    refine r_ic ((hp 27).trans rfl) (fun c45 => ?_) (fun c45 => ?_)
    · have H := H.1 c45
      refine am_R.next ((hp 42).trans rfl) rfl ?_
      refine r_cs (as := [.inl x1]) (st' := []) ((hp 43).trans rfl) rfl rfl (Nat.le_of_ble_eq_true rfl) (Nat.le_of_ble_eq_true rfl) (am_R.post H (fun v g3 hq => ?_))
      obtain ⟨r4, rfl, hw, H⟩ := hq
      change am_R _ _ _ _ _ [.inl r4] _ _
      refine am_R.next ((hp 46).trans rfl) rfl ?_
      refine r_getR ((hp 47).trans rfl) (hw.o (i := 109) (by decide) rfl) (hw.r wr_109_1) ?_
      refine am_R.next ((hp 50).trans rfl) rfl ?_
      refine am_R.next ((hp 52).trans rfl) rfl ?_
      refine am_R.next ((hp 54).trans rfl) rfl ?_
      obtain ⟨c5, H⟩ := H
      refine r_iald ((hp 55).trans rfl) (hw.a (i := 110) (by decide) rfl c5.1 c5.2) ?_
      refine am_R.next ((hp 56).trans rfl) rfl ?_
      obtain ⟨y6, ey6⟩ : ∃ z : Int, z = am_w (r4 + (g3.2.2.2 110 ((am_w (22 + r2)).toNat))) := ⟨_, rfl⟩
      have H := H y6 ey6
      refine am_R.next (lv' := [some (.inr (.inr ((109 : Nat) : Int))), some (.inl x1), some (.inl x2), some (.inl x3), some (.inl r2), some (.inl y6), none]) (st' := []) (h' := g3) (pc' := 59) ((hp 57).trans rfl) (by rw [ey6]; rfl) ?_
      refine am_R.next ((hp 59).trans rfl) rfl ?_
      refine am_R.next ((hp 61).trans rfl) rfl ?_
      refine r_getR ((hp 62).trans rfl) (hw.o (i := 109) (by decide) rfl) (hw.r wr_109_1) ?_
      refine am_R.next ((hp 65).trans rfl) rfl ?_
      refine r_iald ((hp 66).trans rfl) (hw.a (i := 110) (by decide) rfl (by decide) (by decide)) ?_
      obtain ⟨c24, H⟩ := H
      refine r_i2z ((hp 67).trans rfl) c24 ?_
      obtain ⟨y7, ey7⟩ : ∃ z : Int, z = y6.tmod (g3.2.2.2 110 2) := ⟨_, rfl⟩
      have H := H y7 ey7
      refine am_R.next (lv' := [some (.inr (.inr ((109 : Nat) : Int))), some (.inl x1), some (.inl x2), some (.inl x3), some (.inl r2), some (.inl y6), some (.inl y7)]) (st' := []) (h' := g3) (pc' := 70) ((hp 68).trans rfl) (by rw [ey7]; rfl) ?_
      refine am_R.next ((hp 70).trans rfl) rfl ?_
      refine r_if ((hp 72).trans rfl) (fun c23 => ?_) (fun c23 => ?_)
      · have H := H.1 c23
        refine am_R.next ((hp 87).trans rfl) rfl ?_
        refine am_R.next (lv' := [some (.inr (.inr ((109 : Nat) : Int))), some (.inl x1), some (.inl x2), some (.inl x3), some (.inl r2), some (.inl y6), some (.inl y7)]) ((hp 89).trans rfl) rfl ?_
        refine am_R.next ((hp 91).trans rfl) rfl ?_
        refine r_cs (as := [.inl x1]) (st' := []) ((hp 92).trans rfl) rfl rfl (Nat.le_of_ble_eq_true rfl) (Nat.le_of_ble_eq_true rfl) (am_R.post H (fun v g8 hq => ?_))
        obtain ⟨r9, rfl, hw, H⟩ := hq
        change am_R _ _ _ _ _ [.inl r9] _ _
        refine am_R.next ((hp 95).trans rfl) rfl ?_
        refine am_R.next ((hp 97).trans rfl) rfl ?_
        refine r_getR ((hp 98).trans rfl) (hw.o (i := 109) (by decide) rfl) (hw.r wr_109_1) ?_
        refine am_R.next ((hp 101).trans rfl) rfl ?_
        refine r_iald ((hp 102).trans rfl) (hw.a (i := 110) (by decide) rfl (by decide) (by decide)) ?_
        refine r_ic ((hp 103).trans rfl) (fun c14 => ?_) (fun c14 => ?_)
        · have H := H.1 c14
          refine am_R.next ((hp 110).trans rfl) rfl ?_
          refine am_R.next ((hp 111).trans rfl) rfl ?_
          refine am_R.next ((hp 112).trans rfl) rfl ?_
          refine am_R.next ((hp 114).trans rfl) rfl ?_
          refine am_R.next ((hp 116).trans rfl) rfl ?_
          refine r_cs (as := [.inl (am_w (r9 + 0)), .inl r2, .inl y7, .inl 0]) (st' := []) ((hp 117).trans rfl) rfl rfl (Nat.le_of_ble_eq_true rfl) (Nat.le_of_ble_eq_true rfl) (am_R.post H (fun v g10 hq => ?_))
          obtain ⟨r11, rfl, hw, H⟩ := hq
          change am_R _ _ _ _ _ [.inl r11] _ _
          exact am_R.ret ((hp 120).trans rfl) rfl H
        · have H := H.2 (Decidable.not_not.mp c14)
          refine am_R.next ((hp 106).trans rfl) rfl ?_
          refine am_R.next ((hp 107).trans rfl) rfl ?_
          refine am_R.next ((hp 111).trans rfl) rfl ?_
          refine am_R.next ((hp 112).trans rfl) rfl ?_
          refine am_R.next ((hp 114).trans rfl) rfl ?_
          refine am_R.next ((hp 116).trans rfl) rfl ?_
          refine r_cs (as := [.inl (am_w (r9 + 1)), .inl r2, .inl y7, .inl 0]) (st' := []) ((hp 117).trans rfl) rfl rfl (Nat.le_of_ble_eq_true rfl) (Nat.le_of_ble_eq_true rfl) (am_R.post H (fun v g12 hq => ?_))
          obtain ⟨r13, rfl, hw, H⟩ := hq
          change am_R _ _ _ _ _ [.inl r13] _ _
          exact am_R.ret ((hp 120).trans rfl) rfl H
      · have H := H.2 (Decidable.not_not.mp c23)
        refine am_R.next ((hp 75).trans rfl) rfl ?_
        refine am_R.next ((hp 77).trans rfl) rfl ?_
        refine r_getR ((hp 78).trans rfl) (hw.o (i := 109) (by decide) rfl) (hw.r wr_109_1) ?_
        refine am_R.next ((hp 81).trans rfl) rfl ?_
        refine r_iald ((hp 82).trans rfl) (hw.a (i := 110) (by decide) rfl (by decide) (by decide)) ?_
        refine am_R.next ((hp 83).trans rfl) rfl ?_
        refine am_R.next ((hp 84).trans rfl) rfl ?_
        obtain ⟨y15, ey15⟩ : ∃ z : Int, z = am_w (y7 + (g3.2.2.2 110 2)) := ⟨_, rfl⟩
        have H := H y15 ey15
        refine am_R.next (lv' := [some (.inr (.inr ((109 : Nat) : Int))), some (.inl x1), some (.inl x2), some (.inl x3), some (.inl r2), some (.inl y6), some (.inl y15)]) (st' := []) (h' := g3) (pc' := 91) ((hp 89).trans rfl) (by rw [ey15]; rfl) ?_
        refine am_R.next ((hp 91).trans rfl) rfl ?_
        refine r_cs (as := [.inl x1]) (st' := []) ((hp 92).trans rfl) rfl rfl (Nat.le_of_ble_eq_true rfl) (Nat.le_of_ble_eq_true rfl) (am_R.post H (fun v g16 hq => ?_))
        obtain ⟨r17, rfl, hw, H⟩ := hq
        change am_R _ _ _ _ _ [.inl r17] _ _
        refine am_R.next ((hp 95).trans rfl) rfl ?_
        refine am_R.next ((hp 97).trans rfl) rfl ?_
        refine r_getR ((hp 98).trans rfl) (hw.o (i := 109) (by decide) rfl) (hw.r wr_109_1) ?_
        refine am_R.next ((hp 101).trans rfl) rfl ?_
        refine r_iald ((hp 102).trans rfl) (hw.a (i := 110) (by decide) rfl (by decide) (by decide)) ?_
        refine r_ic ((hp 103).trans rfl) (fun c22 => ?_) (fun c22 => ?_)
        · have H := H.1 c22
          refine am_R.next ((hp 110).trans rfl) rfl ?_
          refine am_R.next ((hp 111).trans rfl) rfl ?_
          refine am_R.next ((hp 112).trans rfl) rfl ?_
          refine am_R.next ((hp 114).trans rfl) rfl ?_
          refine am_R.next ((hp 116).trans rfl) rfl ?_
          refine r_cs (as := [.inl (am_w (r17 + 0)), .inl r2, .inl y15, .inl 0]) (st' := []) ((hp 117).trans rfl) rfl rfl (Nat.le_of_ble_eq_true rfl) (Nat.le_of_ble_eq_true rfl) (am_R.post H (fun v g18 hq => ?_))
          obtain ⟨r19, rfl, hw, H⟩ := hq
          change am_R _ _ _ _ _ [.inl r19] _ _
          exact am_R.ret ((hp 120).trans rfl) rfl H
        · have H := H.2 (Decidable.not_not.mp c22)
          refine am_R.next ((hp 106).trans rfl) rfl ?_
          refine am_R.next ((hp 107).trans rfl) rfl ?_
          refine am_R.next ((hp 111).trans rfl) rfl ?_
          refine am_R.next ((hp 112).trans rfl) rfl ?_
          refine am_R.next ((hp 114).trans rfl) rfl ?_
          refine am_R.next ((hp 116).trans rfl) rfl ?_
          refine r_cs (as := [.inl (am_w (r17 + 1)), .inl r2, .inl y15, .inl 0]) (st' := []) ((hp 117).trans rfl) rfl rfl (Nat.le_of_ble_eq_true rfl) (Nat.le_of_ble_eq_true rfl) (am_R.post H (fun v g20 hq => ?_))
          obtain ⟨r21, rfl, hw, H⟩ := hq
          change am_R _ _ _ _ _ [.inl r21] _ _
          exact am_R.ret ((hp 120).trans rfl) rfl H
    · have H := H.2 (Decidable.not_not.mp c45)
      refine am_R.next ((hp 30).trans rfl) rfl ?_
      refine am_R.next ((hp 31).trans rfl) rfl ?_
      refine am_R.next ((hp 32).trans rfl) rfl ?_
      refine am_R.next ((hp 33).trans rfl) rfl ?_
      refine am_R.next ((hp 35).trans rfl) rfl ?_
      refine r_cv (bs := [.inl 1, .inl x1, .inl r2, .inl x3]) (st' := []) ((hp 36).trans rfl) (hw.o (i := 109) (by decide) rfl) rfl rfl (Nat.le_of_ble_eq_true rfl) (Nat.le_of_ble_eq_true rfl) (am_R.post H (fun v g25 hq => ?_))
      obtain ⟨r26, rfl, hw, H⟩ := hq
      change am_R _ _ _ _ _ [.inl r26] _ _
      refine am_R.next ((hp 39).trans rfl) rfl ?_
      refine am_R.next (lv' := [some (.inr (.inr ((109 : Nat) : Int))), some (.inl x1), some (.inl x2), some (.inl x3), some (.inl r2), some (.inl r26), none]) ((hp 57).trans rfl) rfl ?_
      refine am_R.next ((hp 59).trans rfl) rfl ?_
      refine am_R.next ((hp 61).trans rfl) rfl ?_
      refine r_getR ((hp 62).trans rfl) (hw.o (i := 109) (by decide) rfl) (hw.r wr_109_1) ?_
      refine am_R.next ((hp 65).trans rfl) rfl ?_
      refine r_iald ((hp 66).trans rfl) (hw.a (i := 110) (by decide) rfl (by decide) (by decide)) ?_
      obtain ⟨c44, H⟩ := H
      refine r_i2z ((hp 67).trans rfl) c44 ?_
      obtain ⟨y27, ey27⟩ : ∃ z : Int, z = r26.tmod (g25.2.2.2 110 2) := ⟨_, rfl⟩
      have H := H y27 ey27
      refine am_R.next (lv' := [some (.inr (.inr ((109 : Nat) : Int))), some (.inl x1), some (.inl x2), some (.inl x3), some (.inl r2), some (.inl r26), some (.inl y27)]) (st' := []) (h' := g25) (pc' := 70) ((hp 68).trans rfl) (by rw [ey27]; rfl) ?_
      refine am_R.next ((hp 70).trans rfl) rfl ?_
      refine r_if ((hp 72).trans rfl) (fun c43 => ?_) (fun c43 => ?_)
      · have H := H.1 c43
        refine am_R.next ((hp 87).trans rfl) rfl ?_
        refine am_R.next (lv' := [some (.inr (.inr ((109 : Nat) : Int))), some (.inl x1), some (.inl x2), some (.inl x3), some (.inl r2), some (.inl r26), some (.inl y27)]) ((hp 89).trans rfl) rfl ?_
        refine am_R.next ((hp 91).trans rfl) rfl ?_
        refine r_cs (as := [.inl x1]) (st' := []) ((hp 92).trans rfl) rfl rfl (Nat.le_of_ble_eq_true rfl) (Nat.le_of_ble_eq_true rfl) (am_R.post H (fun v g28 hq => ?_))
        obtain ⟨r29, rfl, hw, H⟩ := hq
        change am_R _ _ _ _ _ [.inl r29] _ _
        refine am_R.next ((hp 95).trans rfl) rfl ?_
        refine am_R.next ((hp 97).trans rfl) rfl ?_
        refine r_getR ((hp 98).trans rfl) (hw.o (i := 109) (by decide) rfl) (hw.r wr_109_1) ?_
        refine am_R.next ((hp 101).trans rfl) rfl ?_
        refine r_iald ((hp 102).trans rfl) (hw.a (i := 110) (by decide) rfl (by decide) (by decide)) ?_
        refine r_ic ((hp 103).trans rfl) (fun c34 => ?_) (fun c34 => ?_)
        · have H := H.1 c34
          refine am_R.next ((hp 110).trans rfl) rfl ?_
          refine am_R.next ((hp 111).trans rfl) rfl ?_
          refine am_R.next ((hp 112).trans rfl) rfl ?_
          refine am_R.next ((hp 114).trans rfl) rfl ?_
          refine am_R.next ((hp 116).trans rfl) rfl ?_
          refine r_cs (as := [.inl (am_w (r29 + 0)), .inl r2, .inl y27, .inl 0]) (st' := []) ((hp 117).trans rfl) rfl rfl (Nat.le_of_ble_eq_true rfl) (Nat.le_of_ble_eq_true rfl) (am_R.post H (fun v g30 hq => ?_))
          obtain ⟨r31, rfl, hw, H⟩ := hq
          change am_R _ _ _ _ _ [.inl r31] _ _
          exact am_R.ret ((hp 120).trans rfl) rfl H
        · have H := H.2 (Decidable.not_not.mp c34)
          refine am_R.next ((hp 106).trans rfl) rfl ?_
          refine am_R.next ((hp 107).trans rfl) rfl ?_
          refine am_R.next ((hp 111).trans rfl) rfl ?_
          refine am_R.next ((hp 112).trans rfl) rfl ?_
          refine am_R.next ((hp 114).trans rfl) rfl ?_
          refine am_R.next ((hp 116).trans rfl) rfl ?_
          refine r_cs (as := [.inl (am_w (r29 + 1)), .inl r2, .inl y27, .inl 0]) (st' := []) ((hp 117).trans rfl) rfl rfl (Nat.le_of_ble_eq_true rfl) (Nat.le_of_ble_eq_true rfl) (am_R.post H (fun v g32 hq => ?_))
          obtain ⟨r33, rfl, hw, H⟩ := hq
          change am_R _ _ _ _ _ [.inl r33] _ _
          exact am_R.ret ((hp 120).trans rfl) rfl H
      · have H := H.2 (Decidable.not_not.mp c43)
        refine am_R.next ((hp 75).trans rfl) rfl ?_
        refine am_R.next ((hp 77).trans rfl) rfl ?_
        refine r_getR ((hp 78).trans rfl) (hw.o (i := 109) (by decide) rfl) (hw.r wr_109_1) ?_
        refine am_R.next ((hp 81).trans rfl) rfl ?_
        refine r_iald ((hp 82).trans rfl) (hw.a (i := 110) (by decide) rfl (by decide) (by decide)) ?_
        refine am_R.next ((hp 83).trans rfl) rfl ?_
        refine am_R.next ((hp 84).trans rfl) rfl ?_
        obtain ⟨y35, ey35⟩ : ∃ z : Int, z = am_w (y27 + (g25.2.2.2 110 2)) := ⟨_, rfl⟩
        have H := H y35 ey35
        refine am_R.next (lv' := [some (.inr (.inr ((109 : Nat) : Int))), some (.inl x1), some (.inl x2), some (.inl x3), some (.inl r2), some (.inl r26), some (.inl y35)]) (st' := []) (h' := g25) (pc' := 91) ((hp 89).trans rfl) (by rw [ey35]; rfl) ?_
        refine am_R.next ((hp 91).trans rfl) rfl ?_
        refine r_cs (as := [.inl x1]) (st' := []) ((hp 92).trans rfl) rfl rfl (Nat.le_of_ble_eq_true rfl) (Nat.le_of_ble_eq_true rfl) (am_R.post H (fun v g36 hq => ?_))
        obtain ⟨r37, rfl, hw, H⟩ := hq
        change am_R _ _ _ _ _ [.inl r37] _ _
        refine am_R.next ((hp 95).trans rfl) rfl ?_
        refine am_R.next ((hp 97).trans rfl) rfl ?_
        refine r_getR ((hp 98).trans rfl) (hw.o (i := 109) (by decide) rfl) (hw.r wr_109_1) ?_
        refine am_R.next ((hp 101).trans rfl) rfl ?_
        refine r_iald ((hp 102).trans rfl) (hw.a (i := 110) (by decide) rfl (by decide) (by decide)) ?_
        refine r_ic ((hp 103).trans rfl) (fun c42 => ?_) (fun c42 => ?_)
        · have H := H.1 c42
          refine am_R.next ((hp 110).trans rfl) rfl ?_
          refine am_R.next ((hp 111).trans rfl) rfl ?_
          refine am_R.next ((hp 112).trans rfl) rfl ?_
          refine am_R.next ((hp 114).trans rfl) rfl ?_
          refine am_R.next ((hp 116).trans rfl) rfl ?_
          refine r_cs (as := [.inl (am_w (r37 + 0)), .inl r2, .inl y35, .inl 0]) (st' := []) ((hp 117).trans rfl) rfl rfl (Nat.le_of_ble_eq_true rfl) (Nat.le_of_ble_eq_true rfl) (am_R.post H (fun v g38 hq => ?_))
          obtain ⟨r39, rfl, hw, H⟩ := hq
          change am_R _ _ _ _ _ [.inl r39] _ _
          exact am_R.ret ((hp 120).trans rfl) rfl H
        · have H := H.2 (Decidable.not_not.mp c42)
          refine am_R.next ((hp 106).trans rfl) rfl ?_
          refine am_R.next ((hp 107).trans rfl) rfl ?_
          refine am_R.next ((hp 111).trans rfl) rfl ?_
          refine am_R.next ((hp 112).trans rfl) rfl ?_
          refine am_R.next ((hp 114).trans rfl) rfl ?_
          refine am_R.next ((hp 116).trans rfl) rfl ?_
          refine r_cs (as := [.inl (am_w (r37 + 1)), .inl r2, .inl y35, .inl 0]) (st' := []) ((hp 117).trans rfl) rfl rfl (Nat.le_of_ble_eq_true rfl) (Nat.le_of_ble_eq_true rfl) (am_R.post H (fun v g40 hq => ?_))
          obtain ⟨r41, rfl, hw, H⟩ := hq
          change am_R _ _ _ _ _ [.inl r41] _ _
          exact am_R.ret ((hp 120).trans rfl) rfl H
  · have H := H.2 (Decidable.not_not.mp c46)
    refine am_R.next ((hp 15).trans rfl) rfl ?_
    refine am_R.next ((hp 16).trans rfl) rfl ?_
    refine am_R.next ((hp 17).trans rfl) rfl ?_
    exact am_R.ret ((hp 18).trans rfl) rfl H
theorem w_M_whyBeat_0 {scr : Nat × (Nat → Int)} {d : Nat} {h : am_H} {Q : Option am_V → am_H → Prop} {x1 x2 : Int} (hs : am_sc scr) (hw : wf h) (H : (x2 = 0 → (am_R (am_prog scr) (d + 1) f_M_whyBeat 18 [some (.inr (.inr ((109 : Nat) : Int))), some (.inl x1), some (.inr (.inl x2)), none] [] h Q)) ∧ (¬ (x2 = 0) → (am_R (am_prog scr) d f_M_isSleeper 0 [some (.inr (.inr ((109 : Nat) : Int))), some (.inr (.inl (am_W (x2 - 1)))), none] [] h (fun v g1 => ∃ r2 : Int, v = some (.inl r2) ∧ wf g1 ∧ ((¬ (r2 = 0) → (am_R (am_prog scr) (d + 1) f_M_whyBeat 18 [some (.inr (.inr ((109 : Nat) : Int))), some (.inl x1), some (.inr (.inl x2)), none] [] g1 Q)) ∧ (r2 = 0 → (Q (some (.inl 1)) g1))))))) : am_R (am_prog scr) (d + 1) f_M_whyBeat 0 [some (.inr (.inr ((109 : Nat) : Int))), some (.inl x1), some (.inr (.inl x2)), none] [] h Q := by
  have hp : ∀ k, (am_prog scr).1 f_M_whyBeat k = c_M_whyBeat k := fun _ => rfl
  refine am_R.next ((hp 0).trans rfl) rfl ?_
  refine am_R.next ((hp 1).trans rfl) rfl ?_
  refine am_R.next ((hp 2).trans rfl) rfl ?_
  refine r_if ((hp 3).trans rfl) (fun c4 => ?_) (fun c4 => ?_)
  · have H := H.1 (lc_eqt c4)
    exact H
  · have H := H.2 (lc_eqf c4)
    refine am_R.next ((hp 6).trans rfl) rfl ?_
    refine am_R.next ((hp 7).trans rfl) rfl ?_
    refine am_R.next ((hp 8).trans rfl) rfl ?_
    refine am_R.next ((hp 9).trans rfl) rfl ?_
    refine r_cv (bs := [.inr (.inl (am_W (x2 - 1)))]) (st' := []) ((hp 10).trans rfl) (hw.o (i := 109) (by decide) rfl) rfl rfl (Nat.le_of_ble_eq_true rfl) (Nat.le_of_ble_eq_true rfl) (am_R.post H (fun v g1 hq => ?_))
    obtain ⟨r2, rfl, hw, H⟩ := hq
    change am_R _ _ _ _ _ [.inl r2] _ _
    refine r_if ((hp 13).trans rfl) (fun c3 => ?_) (fun c3 => ?_)
    · have H := H.1 c3
      exact H
    · have H := H.2 (Decidable.not_not.mp c3)
      refine am_R.next ((hp 16).trans rfl) rfl ?_
      exact am_R.ret ((hp 17).trans rfl) rfl H
theorem w_M_whyBeat_18 {scr : Nat × (Nat → Int)} {d : Nat} {h : am_H} {Q : Option am_V → am_H → Prop} {x1 x2 : Int} (hs : am_sc scr) (hw : wf h) (H : am_R (am_prog scr) d f_M_isOver 0 [some (.inr (.inr ((109 : Nat) : Int))), some (.inl x1)] [] h (fun v g1 => ∃ r2 : Int, v = some (.inl r2) ∧ wf g1 ∧ ((r2 = 0 → (Q (some (.inl 0)) g1)) ∧ (¬ (r2 = 0) → (Q (some (.inl 2)) g1))))) : am_R (am_prog scr) (d + 1) f_M_whyBeat 18 [some (.inr (.inr ((109 : Nat) : Int))), some (.inl x1), some (.inr (.inl x2)), none] [] h Q := by
  have hp : ∀ k, (am_prog scr).1 f_M_whyBeat k = c_M_whyBeat k := fun _ => rfl
  refine am_R.next ((hp 18).trans rfl) rfl ?_
  refine am_R.next ((hp 19).trans rfl) rfl ?_
  refine r_cv (bs := [.inl x1]) (st' := []) ((hp 20).trans rfl) (hw.o (i := 109) (by decide) rfl) rfl rfl (Nat.le_of_ble_eq_true rfl) (Nat.le_of_ble_eq_true rfl) (am_R.post H (fun v g1 hq => ?_))
  obtain ⟨r2, rfl, hw, H⟩ := hq
  change am_R _ _ _ _ _ [.inl r2] _ _
  refine r_if ((hp 23).trans rfl) (fun c3 => ?_) (fun c3 => ?_)
  · have H := H.1 c3
    refine am_R.next ((hp 30).trans rfl) rfl ?_
    exact am_R.ret ((hp 31).trans rfl) rfl H
  · have H := H.2 c3
    refine am_R.next ((hp 26).trans rfl) rfl ?_
    refine am_R.next ((hp 27).trans rfl) rfl ?_
    exact am_R.ret ((hp 31).trans rfl) rfl H
theorem w_M_sleeper_0 {scr : Nat × (Nat → Int)} {d : Nat} {h : am_H} {Q : Option am_V → am_H → Prop} {x1 x2 : Int} (hs : am_sc scr) (hw : wf h) (H : ∀ h1 : am_H, h1 = am_put h 109 0 0 → (am_R (am_prog scr) d f_M_isSleeper 0 [some (.inr (.inr ((109 : Nat) : Int))), some (.inr (.inl x1)), none] [] h1 (fun v g2 => ∃ r3 : Int, v = some (.inl r3) ∧ wf g2 ∧ ((¬ (r3 = 0) → ((¬ (x2 = 0) → ((¬ (x2 = 1) → (Q (some (.inl (-2))) g2)) ∧ (x2 = 1 → ((0 ≤ (am_w (22 + x1)) ∧ (am_w (22 + x1)) < 3336) ∧ (Q (some (.inl (g2.2.2.2 110 ((am_w (22 + x1)).toNat)))) g2))))) ∧ (x2 = 0 → ((0 ≤ (am_w (16 + x1)) ∧ (am_w (16 + x1)) < 3336) ∧ (Q (some (.inl (g2.2.2.2 110 ((am_w (16 + x1)).toNat)))) g2))))) ∧ (r3 = 0 → (Q (some (.inl (-2))) g2)))))) : am_R (am_prog scr) (d + 1) f_M_sleeper 0 [some (.inr (.inr ((109 : Nat) : Int))), some (.inl x1), some (.inl x2)] [] h Q := by
  have hp : ∀ k, (am_prog scr).1 f_M_sleeper k = c_M_sleeper k := fun _ => rfl
  refine am_R.next ((hp 0).trans rfl) rfl ?_
  refine am_R.next ((hp 1).trans rfl) rfl ?_
  obtain ⟨h1, eh1⟩ : ∃ z : am_H, z = am_put h 109 0 0 := ⟨_, rfl⟩
  have H := H h1 eh1
  refine r_putI ((hp 2).trans rfl) (hw.o (i := 109) (by decide) rfl) ?_
  have hw : wf h1 := by rw [eh1]; exact hw.put np_109_0
  change am_R _ _ _ _ _ _ (am_put h 109 0 0) _
  rw [← eh1]
  refine am_R.next ((hp 5).trans rfl) rfl ?_
  refine am_R.next ((hp 6).trans rfl) rfl ?_
  refine am_R.next ((hp 7).trans rfl) rfl ?_
  refine r_cv (bs := [.inr (.inl x1)]) (st' := []) ((hp 8).trans rfl) (hw.o (i := 109) (by decide) rfl) rfl rfl (Nat.le_of_ble_eq_true rfl) (Nat.le_of_ble_eq_true rfl) (am_R.post H (fun v g2 hq => ?_))
  obtain ⟨r3, rfl, hw, H⟩ := hq
  change am_R _ _ _ _ _ [.inl r3] _ _
  refine r_if ((hp 11).trans rfl) (fun c8 => ?_) (fun c8 => ?_)
  · have H := H.1 c8
    refine am_R.next ((hp 17).trans rfl) rfl ?_
    refine r_if ((hp 18).trans rfl) (fun c7 => ?_) (fun c7 => ?_)
    · have H := H.1 c7
      refine am_R.next ((hp 33).trans rfl) rfl ?_
      refine am_R.next ((hp 34).trans rfl) rfl ?_
      refine r_ic ((hp 35).trans rfl) (fun c5 => ?_) (fun c5 => ?_)
      · have H := H.1 c5
        refine am_R.next ((hp 50).trans rfl) rfl ?_
        exact am_R.ret ((hp 52).trans rfl) rfl H
      · have H := H.2 (Decidable.not_not.mp c5)
        refine am_R.next ((hp 38).trans rfl) rfl ?_
        refine r_getR ((hp 39).trans rfl) (hw.o (i := 109) (by decide) rfl) (hw.r wr_109_1) ?_
        refine am_R.next ((hp 42).trans rfl) rfl ?_
        refine am_R.next ((hp 44).trans rfl) rfl ?_
        refine am_R.next ((hp 45).trans rfl) rfl ?_
        obtain ⟨c4, H⟩ := H
        refine r_iald ((hp 46).trans rfl) (hw.a (i := 110) (by decide) rfl c4.1 c4.2) ?_
        refine am_R.next ((hp 47).trans rfl) rfl ?_
        exact am_R.ret ((hp 52).trans rfl) rfl H
    · have H := H.2 (Decidable.not_not.mp c7)
      refine am_R.next ((hp 21).trans rfl) rfl ?_
      refine r_getR ((hp 22).trans rfl) (hw.o (i := 109) (by decide) rfl) (hw.r wr_109_1) ?_
      refine am_R.next ((hp 25).trans rfl) rfl ?_
      refine am_R.next ((hp 27).trans rfl) rfl ?_
      refine am_R.next ((hp 28).trans rfl) rfl ?_
      obtain ⟨c6, H⟩ := H
      refine r_iald ((hp 29).trans rfl) (hw.a (i := 110) (by decide) rfl c6.1 c6.2) ?_
      refine am_R.next ((hp 30).trans rfl) rfl ?_
      exact am_R.ret ((hp 52).trans rfl) rfl H
  · have H := H.2 (Decidable.not_not.mp c8)
    refine am_R.next ((hp 14).trans rfl) rfl ?_
    exact am_R.ret ((hp 16).trans rfl) rfl H
theorem w_M_would_0 {scr : Nat × (Nat → Int)} {d : Nat} {h : am_H} {Q : Option am_V → am_H → Prop} {x1 : Int} (hs : am_sc scr) (hw : wf h) (H : ∀ h1 : am_H, h1 = am_put h 109 0 0 → (am_R (am_prog scr) d f_M_isSleeper 0 [some (.inr (.inr ((109 : Nat) : Int))), some (.inr (.inl x1)), none] [] h1 (fun v g2 => ∃ r3 : Int, v = some (.inl r3) ∧ wf g2 ∧ ((r3 = 0 → (Q (some (.inl (-99000002))) g2)) ∧ (¬ (r3 = 0) → (am_R (am_prog scr) d f_M_standNow 0 [some (.inr (.inr ((109 : Nat) : Int)))] [] g2 (fun v g4 => ∃ r5 : Int, v = some (.inl r5) ∧ wf g4 ∧ (am_R (am_prog scr) d f_M_wouldOf 0 [some (.inr (.inr ((109 : Nat) : Int))), some (.inl r5), some (.inl x1), some (.inl (g4.2.2.2 110 28))] [] g4 (fun v g6 => ∃ r7 : Int, v = some (.inl r7) ∧ wf g6 ∧ (Q (some (.inl r7)) g6)))))))))) : am_R (am_prog scr) (d + 1) f_M_would 0 [some (.inr (.inr ((109 : Nat) : Int))), some (.inl x1)] [] h Q := by
  have hp : ∀ k, (am_prog scr).1 f_M_would k = c_M_would k := fun _ => rfl
  refine am_R.next ((hp 0).trans rfl) rfl ?_
  refine am_R.next ((hp 1).trans rfl) rfl ?_
  obtain ⟨h1, eh1⟩ : ∃ z : am_H, z = am_put h 109 0 0 := ⟨_, rfl⟩
  have H := H h1 eh1
  refine r_putI ((hp 2).trans rfl) (hw.o (i := 109) (by decide) rfl) ?_
  have hw : wf h1 := by rw [eh1]; exact hw.put np_109_0
  change am_R _ _ _ _ _ _ (am_put h 109 0 0) _
  rw [← eh1]
  refine am_R.next ((hp 5).trans rfl) rfl ?_
  refine am_R.next ((hp 6).trans rfl) rfl ?_
  refine am_R.next ((hp 7).trans rfl) rfl ?_
  refine r_cv (bs := [.inr (.inl x1)]) (st' := []) ((hp 8).trans rfl) (hw.o (i := 109) (by decide) rfl) rfl rfl (Nat.le_of_ble_eq_true rfl) (Nat.le_of_ble_eq_true rfl) (am_R.post H (fun v g2 hq => ?_))
  obtain ⟨r3, rfl, hw, H⟩ := hq
  change am_R _ _ _ _ _ [.inl r3] _ _
  refine r_if ((hp 11).trans rfl) (fun c8 => ?_) (fun c8 => ?_)
  · have H := H.1 c8
    refine am_R.next ((hp 33).trans rfl) rfl ?_
    exact am_R.ret ((hp 36).trans rfl) rfl H
  · have H := H.2 c8
    refine am_R.next ((hp 14).trans rfl) rfl ?_
    refine am_R.next ((hp 15).trans rfl) rfl ?_
    refine r_cv (bs := []) (st' := [.inr (.inr ((109 : Nat) : Int))]) ((hp 16).trans rfl) (hw.o (i := 109) (by decide) rfl) rfl rfl (Nat.le_of_ble_eq_true rfl) (Nat.le_of_ble_eq_true rfl) (am_R.post H (fun v g4 hq => ?_))
    obtain ⟨r5, rfl, hw, H⟩ := hq
    change am_R _ _ _ _ _ [.inl r5, .inr (.inr ((109 : Nat) : Int))] _ _
    refine am_R.next ((hp 19).trans rfl) rfl ?_
    refine am_R.next ((hp 20).trans rfl) rfl ?_
    refine r_getR ((hp 21).trans rfl) (hw.o (i := 109) (by decide) rfl) (hw.r wr_109_1) ?_
    refine am_R.next ((hp 24).trans rfl) rfl ?_
    refine r_iald ((hp 26).trans rfl) (hw.a (i := 110) (by decide) rfl (by decide) (by decide)) ?_
    refine r_cv (bs := [.inl r5, .inl x1, .inl (g4.2.2.2 110 28)]) (st' := []) ((hp 27).trans rfl) (hw.o (i := 109) (by decide) rfl) rfl rfl (Nat.le_of_ble_eq_true rfl) (Nat.le_of_ble_eq_true rfl) (am_R.post H (fun v g6 hq => ?_))
    obtain ⟨r7, rfl, hw, H⟩ := hq
    change am_R _ _ _ _ _ [.inl r7] _ _
    refine am_R.next ((hp 30).trans rfl) rfl ?_
    exact am_R.ret ((hp 36).trans rfl) rfl H
theorem w_M_by_0 {scr : Nat × (Nat → Int)} {d : Nat} {h : am_H} {Q : Option am_V → am_H → Prop} {x1 x2 : Int} (hs : am_sc scr) (hw : wf h) (H : ∀ h1 : am_H, h1 = am_put h 109 0 0 → (am_R (am_prog scr) d f_M_within 0 [some (.inr (.inl x2)), none, some (.inr (.inl 0)), none, some (.inr (.inl 2)), none] [] h1 (fun v g2 => ∃ r3 : Int, v = some (.inl r3) ∧ wf g2 ∧ ((¬ (r3 = 0) → (am_R (am_prog scr) d f_M_standNow 0 [some (.inr (.inr ((109 : Nat) : Int)))] [] g2 (fun v g4 => ∃ r5 : Int, v = some (.inl r5) ∧ wf g4 ∧ (am_R (am_prog scr) d f_M_whyBeat 0 [some (.inr (.inr ((109 : Nat) : Int))), some (.inl r5), some (.inr (.inl x1)), none] [] g4 (fun v g6 => ∃ r7 : Int, v = some (.inl r7) ∧ wf g6 ∧ ((r7 = 0 → ((¬ (x2 = 0) → (am_R (am_prog scr) d f_M_standNow 0 [some (.inr (.inr ((109 : Nat) : Int)))] [] g6 (fun v g8 => ∃ r9 : Int, v = some (.inl r9) ∧ wf g8 ∧ (am_R (am_prog scr) d f_M_beatTo 0 [some (.inr (.inr ((109 : Nat) : Int))), some (.inl r9), some (.inl (am_w (x1 - 1))), some (.inl (g8.2.2.2 110 28)), none, none, none] [] g8 (fun v g10 => ∃ r11 : Int, v = some (.inl r11) ∧ wf g10 ∧ ((¬ (x2 = 1) → (am_R (am_prog scr) d f_M_actIn 0 [some (.inl r11)] [] g10 (fun v g12 => ∃ r13 : Int, v = some (.inl r13) ∧ wf g12 ∧ (Q (some (.inl r13)) g12)))) ∧ (x2 = 1 → (am_R (am_prog scr) d f_M_soundIn 0 [some (.inl r11)] [] g10 (fun v g14 => ∃ r15 : Int, v = some (.inl r15) ∧ wf g14 ∧ (Q (some (.inl r15)) g14)))))))))) ∧ (x2 = 0 → (am_R (am_prog scr) d f_M_standNow 0 [some (.inr (.inr ((109 : Nat) : Int)))] [] g6 (fun v g17 => ∃ r18 : Int, v = some (.inl r18) ∧ wf g17 ∧ (am_R (am_prog scr) d f_M_snorer 0 [some (.inr (.inr ((109 : Nat) : Int))), some (.inl r18), some (.inl (am_w (x1 - 1))), some (.inl (g17.2.2.2 110 28)), none, none, none, none] [] g17 (fun v g19 => ∃ r20 : Int, v = some (.inl r20) ∧ wf g19 ∧ (Q (some (.inl r20)) g19)))))))) ∧ (¬ (r7 = 0) → (Q (some (.inl (-5))) g6)))))))) ∧ (r3 = 0 → (Q (some (.inl (-2))) g2)))))) : am_R (am_prog scr) (d + 1) f_M_by 0 [some (.inr (.inr ((109 : Nat) : Int))), some (.inl x1), some (.inl x2), none] [] h Q := by
  have hp : ∀ k, (am_prog scr).1 f_M_by k = c_M_by k := fun _ => rfl
  refine am_R.next ((hp 0).trans rfl) rfl ?_
  refine am_R.next ((hp 1).trans rfl) rfl ?_
  obtain ⟨h1, eh1⟩ : ∃ z : am_H, z = am_put h 109 0 0 := ⟨_, rfl⟩
  have H := H h1 eh1
  refine r_putI ((hp 2).trans rfl) (hw.o (i := 109) (by decide) rfl) ?_
  have hw : wf h1 := by rw [eh1]; exact hw.put np_109_0
  change am_R _ _ _ _ _ _ (am_put h 109 0 0) _
  rw [← eh1]
  refine am_R.next ((hp 5).trans rfl) rfl ?_
  refine am_R.next ((hp 6).trans rfl) rfl ?_
  refine am_R.next ((hp 7).trans rfl) rfl ?_
  refine am_R.next ((hp 8).trans rfl) rfl ?_
  refine r_cs (as := [.inr (.inl x2), .inr (.inl 0), .inr (.inl 2)]) (st' := []) ((hp 11).trans rfl) rfl rfl (Nat.le_of_ble_eq_true rfl) (Nat.le_of_ble_eq_true rfl) (am_R.post H (fun v g2 hq => ?_))
  obtain ⟨r3, rfl, hw, H⟩ := hq
  change am_R _ _ _ _ _ [.inl r3] _ _
  refine r_if ((hp 14).trans rfl) (fun c23 => ?_) (fun c23 => ?_)
  · have H := H.1 c23
    refine am_R.next ((hp 20).trans rfl) rfl ?_
    refine am_R.next ((hp 21).trans rfl) rfl ?_
    refine r_cv (bs := []) (st' := [.inr (.inr ((109 : Nat) : Int))]) ((hp 22).trans rfl) (hw.o (i := 109) (by decide) rfl) rfl rfl (Nat.le_of_ble_eq_true rfl) (Nat.le_of_ble_eq_true rfl) (am_R.post H (fun v g4 hq => ?_))
    obtain ⟨r5, rfl, hw, H⟩ := hq
    change am_R _ _ _ _ _ [.inl r5, .inr (.inr ((109 : Nat) : Int))] _ _
    refine am_R.next ((hp 25).trans rfl) rfl ?_
    refine am_R.next ((hp 26).trans rfl) rfl ?_
    refine r_cv (bs := [.inl r5, .inr (.inl x1)]) (st' := []) ((hp 27).trans rfl) (hw.o (i := 109) (by decide) rfl) rfl rfl (Nat.le_of_ble_eq_true rfl) (Nat.le_of_ble_eq_true rfl) (am_R.post H (fun v g6 hq => ?_))
    obtain ⟨r7, rfl, hw, H⟩ := hq
    change am_R _ _ _ _ _ [.inl r7] _ _
    refine r_if ((hp 30).trans rfl) (fun c22 => ?_) (fun c22 => ?_)
    · have H := H.1 c22
      refine am_R.next ((hp 36).trans rfl) rfl ?_
      refine r_if ((hp 37).trans rfl) (fun c21 => ?_) (fun c21 => ?_)
      · have H := H.1 c21
        refine am_R.next ((hp 59).trans rfl) rfl ?_
        refine am_R.next ((hp 60).trans rfl) rfl ?_
        refine r_cv (bs := []) (st' := [.inr (.inr ((109 : Nat) : Int))]) ((hp 61).trans rfl) (hw.o (i := 109) (by decide) rfl) rfl rfl (Nat.le_of_ble_eq_true rfl) (Nat.le_of_ble_eq_true rfl) (am_R.post H (fun v g8 hq => ?_))
        obtain ⟨r9, rfl, hw, H⟩ := hq
        change am_R _ _ _ _ _ [.inl r9, .inr (.inr ((109 : Nat) : Int))] _ _
        refine am_R.next ((hp 64).trans rfl) rfl ?_
        refine am_R.next ((hp 65).trans rfl) rfl ?_
        refine am_R.next ((hp 66).trans rfl) rfl ?_
        refine am_R.next ((hp 67).trans rfl) rfl ?_
        refine r_getR ((hp 68).trans rfl) (hw.o (i := 109) (by decide) rfl) (hw.r wr_109_1) ?_
        refine am_R.next ((hp 71).trans rfl) rfl ?_
        refine r_iald ((hp 73).trans rfl) (hw.a (i := 110) (by decide) rfl (by decide) (by decide)) ?_
        refine r_cv (bs := [.inl r9, .inl (am_w (x1 - 1)), .inl (g8.2.2.2 110 28)]) (st' := []) ((hp 74).trans rfl) (hw.o (i := 109) (by decide) rfl) rfl rfl (Nat.le_of_ble_eq_true rfl) (Nat.le_of_ble_eq_true rfl) (am_R.post H (fun v g10 hq => ?_))
        obtain ⟨r11, rfl, hw, H⟩ := hq
        change am_R _ _ _ _ _ [.inl r11] _ _
        refine am_R.next (lv' := [some (.inr (.inr ((109 : Nat) : Int))), some (.inl x1), some (.inl x2), some (.inl r11)]) ((hp 77).trans rfl) rfl ?_
        refine am_R.next ((hp 78).trans rfl) rfl ?_
        refine am_R.next ((hp 79).trans rfl) rfl ?_
        refine r_ic ((hp 80).trans rfl) (fun c16 => ?_) (fun c16 => ?_)
        · have H := H.1 c16
          refine am_R.next ((hp 90).trans rfl) rfl ?_
          refine r_cs (as := [.inl r11]) (st' := []) ((hp 91).trans rfl) rfl rfl (Nat.le_of_ble_eq_true rfl) (Nat.le_of_ble_eq_true rfl) (am_R.post H (fun v g12 hq => ?_))
          obtain ⟨r13, rfl, hw, H⟩ := hq
          change am_R _ _ _ _ _ [.inl r13] _ _
          exact am_R.ret ((hp 94).trans rfl) rfl H
        · have H := H.2 (Decidable.not_not.mp c16)
          refine am_R.next ((hp 83).trans rfl) rfl ?_
          refine r_cs (as := [.inl r11]) (st' := []) ((hp 84).trans rfl) rfl rfl (Nat.le_of_ble_eq_true rfl) (Nat.le_of_ble_eq_true rfl) (am_R.post H (fun v g14 hq => ?_))
          obtain ⟨r15, rfl, hw, H⟩ := hq
          change am_R _ _ _ _ _ [.inl r15] _ _
          refine am_R.next ((hp 87).trans rfl) rfl ?_
          exact am_R.ret ((hp 94).trans rfl) rfl H
      · have H := H.2 (Decidable.not_not.mp c21)
        refine am_R.next ((hp 40).trans rfl) rfl ?_
        refine am_R.next ((hp 41).trans rfl) rfl ?_
        refine r_cv (bs := []) (st' := [.inr (.inr ((109 : Nat) : Int))]) ((hp 42).trans rfl) (hw.o (i := 109) (by decide) rfl) rfl rfl (Nat.le_of_ble_eq_true rfl) (Nat.le_of_ble_eq_true rfl) (am_R.post H (fun v g17 hq => ?_))
        obtain ⟨r18, rfl, hw, H⟩ := hq
        change am_R _ _ _ _ _ [.inl r18, .inr (.inr ((109 : Nat) : Int))] _ _
        refine am_R.next ((hp 45).trans rfl) rfl ?_
        refine am_R.next ((hp 46).trans rfl) rfl ?_
        refine am_R.next ((hp 47).trans rfl) rfl ?_
        refine am_R.next ((hp 48).trans rfl) rfl ?_
        refine r_getR ((hp 49).trans rfl) (hw.o (i := 109) (by decide) rfl) (hw.r wr_109_1) ?_
        refine am_R.next ((hp 52).trans rfl) rfl ?_
        refine r_iald ((hp 54).trans rfl) (hw.a (i := 110) (by decide) rfl (by decide) (by decide)) ?_
        refine r_cv (bs := [.inl r18, .inl (am_w (x1 - 1)), .inl (g17.2.2.2 110 28)]) (st' := []) ((hp 55).trans rfl) (hw.o (i := 109) (by decide) rfl) rfl rfl (Nat.le_of_ble_eq_true rfl) (Nat.le_of_ble_eq_true rfl) (am_R.post H (fun v g19 hq => ?_))
        obtain ⟨r20, rfl, hw, H⟩ := hq
        change am_R _ _ _ _ _ [.inl r20] _ _
        exact am_R.ret ((hp 58).trans rfl) rfl H
    · have H := H.2 c22
      refine am_R.next ((hp 33).trans rfl) rfl ?_
      exact am_R.ret ((hp 35).trans rfl) rfl H
  · have H := H.2 (Decidable.not_not.mp c23)
    refine am_R.next ((hp 17).trans rfl) rfl ?_
    exact am_R.ret ((hp 19).trans rfl) rfl H
theorem w_M_stores_0 {scr : Nat × (Nat → Int)} {d : Nat} {h : am_H} {Q : Option am_V → am_H → Prop} (hs : am_sc scr) (hw : wf h) (H : am_R (am_prog scr) d f_M_stores 2 [some (.inr (.inr ((109 : Nat) : Int))), some (.inl 0)] [] h Q) : am_R (am_prog scr) d f_M_stores 0 [some (.inr (.inr ((109 : Nat) : Int))), none] [] h Q := by
  have hp : ∀ k, (am_prog scr).1 f_M_stores k = c_M_stores k := fun _ => rfl
  refine am_R.next ((hp 0).trans rfl) rfl ?_
  refine am_R.next (lv' := [some (.inr (.inr ((109 : Nat) : Int))), some (.inl 0)]) ((hp 1).trans rfl) rfl ?_
  exact H
theorem w_M_stores_2 {scr : Nat × (Nat → Int)} {d : Nat} {h : am_H} {Q : Option am_V → am_H → Prop} {x1 : Int} (hs : am_sc scr) (hw : wf h) (H : (¬ (x1 < 18) → (Q none h)) ∧ (x1 < 18 → ((0 ≤ (am_w (12 + x1)) ∧ (am_w (12 + x1)) < 3336) ∧ (((0 ≤ x1 ∧ x1 < 18)) ∧ (∀ h3 : am_H, h3 = am_put h 116 x1.toNat (h.2.2.2 110 ((am_w (12 + x1)).toNat)) → (∀ y4 : Int, y4 = am_w (x1 + 1) → (am_R (am_prog scr) d f_M_stores 2 [some (.inr (.inr ((109 : Nat) : Int))), some (.inl y4)] [] h3 Q))))))) : am_R (am_prog scr) d f_M_stores 2 [some (.inr (.inr ((109 : Nat) : Int))), some (.inl x1)] [] h Q := by
  have hp : ∀ k, (am_prog scr).1 f_M_stores k = c_M_stores k := fun _ => rfl
  refine am_R.next ((hp 2).trans rfl) rfl ?_
  refine am_R.next ((hp 3).trans rfl) rfl ?_
  refine r_ic ((hp 5).trans rfl) (fun c5 => ?_) (fun c5 => ?_)
  · have H := H.1 c5
    exact am_R.ret ((hp 29).trans rfl) rfl H
  · have H := H.2 (Decidable.not_not.mp c5)
    refine am_R.next ((hp 8).trans rfl) rfl ?_
    refine r_getR ((hp 9).trans rfl) (hw.o (i := 109) (by decide) rfl) (hw.r wr_109_17) ?_
    refine am_R.next ((hp 12).trans rfl) rfl ?_
    refine am_R.next ((hp 13).trans rfl) rfl ?_
    refine r_getR ((hp 14).trans rfl) (hw.o (i := 109) (by decide) rfl) (hw.r wr_109_1) ?_
    refine am_R.next ((hp 17).trans rfl) rfl ?_
    refine am_R.next ((hp 19).trans rfl) rfl ?_
    refine am_R.next ((hp 20).trans rfl) rfl ?_
    obtain ⟨c1, H⟩ := H
    refine r_iald ((hp 21).trans rfl) (hw.a (i := 110) (by decide) rfl c1.1 c1.2) ?_
    obtain ⟨c2, H⟩ := H
    obtain ⟨h3, eh3⟩ : ∃ z : am_H, z = am_put h 116 x1.toNat (h.2.2.2 110 ((am_w (12 + x1)).toNat)) := ⟨_, rfl⟩
    have H := H h3 eh3
    refine r_iast ((hp 22).trans rfl) (hw.a (i := 116) (by decide) rfl c2.1 c2.2) ?_
    have hw : wf h3 := by rw [eh3]; exact hw.pa na_116
    change am_R _ _ _ _ _ _ (am_put h 116 x1.toNat (h.2.2.2 110 ((am_w (12 + x1)).toNat))) _
    rw [← eh3]
    obtain ⟨y4, ey4⟩ : ∃ z : Int, z = am_w (x1 + 1) := ⟨_, rfl⟩
    have H := H y4 ey4
    refine am_R.next (lv' := [some (.inr (.inr ((109 : Nat) : Int))), some (.inl y4)]) (st' := []) (h' := h3) (pc' := 26) ((hp 23).trans rfl) (by rw [ey4]; rfl) ?_
    refine am_R.next ((hp 26).trans rfl) rfl ?_
    exact H
theorem w_M_isAgain_0 {scr : Nat × (Nat → Int)} {d : Nat} {h : am_H} {Q : Option am_V → am_H → Prop} (hs : am_sc scr) (hw : wf h) (H : am_R (am_prog scr) d f_M_isAgain 2 [some (.inr (.inr ((109 : Nat) : Int))), some (.inl 0)] [] h Q) : am_R (am_prog scr) d f_M_isAgain 0 [some (.inr (.inr ((109 : Nat) : Int))), none] [] h Q := by
  have hp : ∀ k, (am_prog scr).1 f_M_isAgain k = c_M_isAgain k := fun _ => rfl
  refine am_R.next ((hp 0).trans rfl) rfl ?_
  refine am_R.next (lv' := [some (.inr (.inr ((109 : Nat) : Int))), some (.inl 0)]) ((hp 1).trans rfl) rfl ?_
  exact H
theorem w_M_isAgain_2 {scr : Nat × (Nat → Int)} {d : Nat} {h : am_H} {Q : Option am_V → am_H → Prop} {x1 : Int} (hs : am_sc scr) (hw : wf h) (H : (¬ (x1 < 18) → (Q none h)) ∧ (x1 < 18 → ((0 ≤ x1 ∧ x1 < 18) ∧ (((0 ≤ (am_w (12 + x1)) ∧ (am_w (12 + x1)) < 3336)) ∧ (∀ h3 : am_H, h3 = am_put h 110 ((am_w (12 + x1)).toNat) (h.2.2.2 116 x1.toNat) → (∀ y4 : Int, y4 = am_w (x1 + 1) → (am_R (am_prog scr) d f_M_isAgain 2 [some (.inr (.inr ((109 : Nat) : Int))), some (.inl y4)] [] h3 Q))))))) : am_R (am_prog scr) d f_M_isAgain 2 [some (.inr (.inr ((109 : Nat) : Int))), some (.inl x1)] [] h Q := by
  have hp : ∀ k, (am_prog scr).1 f_M_isAgain k = c_M_isAgain k := fun _ => rfl
  refine am_R.next ((hp 2).trans rfl) rfl ?_
  refine am_R.next ((hp 3).trans rfl) rfl ?_
  refine r_ic ((hp 5).trans rfl) (fun c5 => ?_) (fun c5 => ?_)
  · have H := H.1 c5
    exact am_R.ret ((hp 29).trans rfl) rfl H
  · have H := H.2 (Decidable.not_not.mp c5)
    refine am_R.next ((hp 8).trans rfl) rfl ?_
    refine r_getR ((hp 9).trans rfl) (hw.o (i := 109) (by decide) rfl) (hw.r wr_109_1) ?_
    refine am_R.next ((hp 12).trans rfl) rfl ?_
    refine am_R.next ((hp 14).trans rfl) rfl ?_
    refine am_R.next ((hp 15).trans rfl) rfl ?_
    refine am_R.next ((hp 16).trans rfl) rfl ?_
    refine r_getR ((hp 17).trans rfl) (hw.o (i := 109) (by decide) rfl) (hw.r wr_109_17) ?_
    refine am_R.next ((hp 20).trans rfl) rfl ?_
    obtain ⟨c1, H⟩ := H
    refine r_iald ((hp 21).trans rfl) (hw.a (i := 116) (by decide) rfl c1.1 c1.2) ?_
    obtain ⟨c2, H⟩ := H
    obtain ⟨h3, eh3⟩ : ∃ z : am_H, z = am_put h 110 ((am_w (12 + x1)).toNat) (h.2.2.2 116 x1.toNat) := ⟨_, rfl⟩
    have H := H h3 eh3
    refine r_iast ((hp 22).trans rfl) (hw.a (i := 110) (by decide) rfl c2.1 c2.2) ?_
    have hw : wf h3 := by rw [eh3]; exact hw.pa na_110
    change am_R _ _ _ _ _ _ (am_put h 110 ((am_w (12 + x1)).toNat) (h.2.2.2 116 x1.toNat)) _
    rw [← eh3]
    obtain ⟨y4, ey4⟩ : ∃ z : Int, z = am_w (x1 + 1) := ⟨_, rfl⟩
    have H := H y4 ey4
    refine am_R.next (lv' := [some (.inr (.inr ((109 : Nat) : Int))), some (.inl y4)]) (st' := []) (h' := h3) (pc' := 26) ((hp 23).trans rfl) (by rw [ey4]; rfl) ?_
    refine am_R.next ((hp 26).trans rfl) rfl ?_
    exact H
theorem w_M_notes_0 {scr : Nat × (Nat → Int)} {d : Nat} {h : am_H} {Q : Option am_V → am_H → Prop} (hs : am_sc scr) (hw : wf h) (H : (¬ ((h.2.2.2 110 30) = 10) → (am_R (am_prog scr) d f_M_notes 58 [some (.inr (.inr ((109 : Nat) : Int))), some (.inl 0)] [] h Q)) ∧ ((h.2.2.2 110 30) = 10 → (am_R (am_prog scr) d f_M_notes 14 [some (.inr (.inr ((109 : Nat) : Int))), some (.inl 0)] [] h Q))) : am_R (am_prog scr) d f_M_notes 0 [some (.inr (.inr ((109 : Nat) : Int))), none] [] h Q := by
  have hp : ∀ k, (am_prog scr).1 f_M_notes k = c_M_notes k := fun _ => rfl
  refine am_R.next ((hp 0).trans rfl) rfl ?_
  refine r_getR ((hp 1).trans rfl) (hw.o (i := 109) (by decide) rfl) (hw.r wr_109_1) ?_
  refine am_R.next ((hp 4).trans rfl) rfl ?_
  refine r_iald ((hp 6).trans rfl) (hw.a (i := 110) (by decide) rfl (by decide) (by decide)) ?_
  refine am_R.next ((hp 7).trans rfl) rfl ?_
  refine r_ic ((hp 9).trans rfl) (fun c1 => ?_) (fun c1 => ?_)
  · have H := H.1 c1
    refine am_R.next ((hp 56).trans rfl) rfl ?_
    refine am_R.next (lv' := [some (.inr (.inr ((109 : Nat) : Int))), some (.inl 0)]) ((hp 57).trans rfl) rfl ?_
    exact H
  · have H := H.2 (Decidable.not_not.mp c1)
    refine am_R.next ((hp 12).trans rfl) rfl ?_
    refine am_R.next (lv' := [some (.inr (.inr ((109 : Nat) : Int))), some (.inl 0)]) ((hp 13).trans rfl) rfl ?_
    exact H
theorem w_M_notes_14 {scr : Nat × (Nat → Int)} {d : Nat} {h : am_H} {Q : Option am_V → am_H → Prop} {x1 : Int} (hs : am_sc scr) (hw : wf h) (H : (¬ (x1 < 162) → (∀ h1 : am_H, h1 = am_put h 110 30 (am_w ((h.2.2.2 110 30) - 1)) → (am_R (am_prog scr) d f_M_notes 58 [some (.inr (.inr ((109 : Nat) : Int))), some (.inl 0)] [] h1 Q))) ∧ (x1 < 162 → ((0 ≤ (am_w (49 + x1)) ∧ (am_w (49 + x1)) < 3336) ∧ (((0 ≤ (am_w (31 + x1)) ∧ (am_w (31 + x1)) < 3336)) ∧ (∀ h4 : am_H, h4 = am_put h 110 ((am_w (31 + x1)).toNat) (h.2.2.2 110 ((am_w (49 + x1)).toNat)) → (∀ y5 : Int, y5 = am_w (x1 + 1) → (am_R (am_prog scr) d f_M_notes 14 [some (.inr (.inr ((109 : Nat) : Int))), some (.inl y5)] [] h4 Q))))))) : am_R (am_prog scr) d f_M_notes 14 [some (.inr (.inr ((109 : Nat) : Int))), some (.inl x1)] [] h Q := by
  have hp : ∀ k, (am_prog scr).1 f_M_notes k = c_M_notes k := fun _ => rfl
  refine am_R.next ((hp 14).trans rfl) rfl ?_
  refine am_R.next ((hp 15).trans rfl) rfl ?_
  refine r_ic ((hp 18).trans rfl) (fun c6 => ?_) (fun c6 => ?_)
  · have H := H.1 c6
    refine am_R.next ((hp 45).trans rfl) rfl ?_
    refine r_getR ((hp 46).trans rfl) (hw.o (i := 109) (by decide) rfl) (hw.r wr_109_1) ?_
    refine am_R.next ((hp 49).trans rfl) rfl ?_
    refine am_R.next ((hp 51).trans rfl) rfl ?_
    refine r_iald ((hp 52).trans rfl) (hw.a (i := 110) (by decide) rfl (by decide) (by decide)) ?_
    refine am_R.next ((hp 53).trans rfl) rfl ?_
    refine am_R.next ((hp 54).trans rfl) rfl ?_
    obtain ⟨h1, eh1⟩ : ∃ z : am_H, z = am_put h 110 30 (am_w ((h.2.2.2 110 30) - 1)) := ⟨_, rfl⟩
    have H := H h1 eh1
    refine r_iast ((hp 55).trans rfl) (hw.a (i := 110) (by decide) rfl (by decide) (by decide)) ?_
    have hw : wf h1 := by rw [eh1]; exact hw.pa na_110
    change am_R _ _ _ _ _ _ (am_put h 110 30 (am_w ((h.2.2.2 110 30) - 1))) _
    rw [← eh1]
    refine am_R.next ((hp 56).trans rfl) rfl ?_
    refine am_R.next (lv' := [some (.inr (.inr ((109 : Nat) : Int))), some (.inl 0)]) ((hp 57).trans rfl) rfl ?_
    exact H
  · have H := H.2 (Decidable.not_not.mp c6)
    refine am_R.next ((hp 21).trans rfl) rfl ?_
    refine r_getR ((hp 22).trans rfl) (hw.o (i := 109) (by decide) rfl) (hw.r wr_109_1) ?_
    refine am_R.next ((hp 25).trans rfl) rfl ?_
    refine am_R.next ((hp 27).trans rfl) rfl ?_
    refine am_R.next ((hp 28).trans rfl) rfl ?_
    refine am_R.next ((hp 29).trans rfl) rfl ?_
    refine r_getR ((hp 30).trans rfl) (hw.o (i := 109) (by decide) rfl) (hw.r wr_109_1) ?_
    refine am_R.next ((hp 33).trans rfl) rfl ?_
    refine am_R.next ((hp 35).trans rfl) rfl ?_
    refine am_R.next ((hp 36).trans rfl) rfl ?_
    obtain ⟨c2, H⟩ := H
    refine r_iald ((hp 37).trans rfl) (hw.a (i := 110) (by decide) rfl c2.1 c2.2) ?_
    obtain ⟨c3, H⟩ := H
    obtain ⟨h4, eh4⟩ : ∃ z : am_H, z = am_put h 110 ((am_w (31 + x1)).toNat) (h.2.2.2 110 ((am_w (49 + x1)).toNat)) := ⟨_, rfl⟩
    have H := H h4 eh4
    refine r_iast ((hp 38).trans rfl) (hw.a (i := 110) (by decide) rfl c3.1 c3.2) ?_
    have hw : wf h4 := by rw [eh4]; exact hw.pa na_110
    change am_R _ _ _ _ _ _ (am_put h 110 ((am_w (31 + x1)).toNat) (h.2.2.2 110 ((am_w (49 + x1)).toNat))) _
    rw [← eh4]
    obtain ⟨y5, ey5⟩ : ∃ z : Int, z = am_w (x1 + 1) := ⟨_, rfl⟩
    have H := H y5 ey5
    refine am_R.next (lv' := [some (.inr (.inr ((109 : Nat) : Int))), some (.inl y5)]) (st' := []) (h' := h4) (pc' := 42) ((hp 39).trans rfl) (by rw [ey5]; rfl) ?_
    refine am_R.next ((hp 42).trans rfl) rfl ?_
    exact H
theorem w_M_notes_58 {scr : Nat × (Nat → Int)} {d : Nat} {h : am_H} {Q : Option am_V → am_H → Prop} {x1 : Int} (hs : am_sc scr) (hw : wf h) (H : (¬ (x1 < 18) → (∀ h1 : am_H, h1 = am_put h 110 30 (am_w ((h.2.2.2 110 30) + 1)) → (Q none h1))) ∧ (x1 < 18 → ((0 ≤ x1 ∧ x1 < 18) ∧ (((0 ≤ (am_w ((am_w (31 + (am_w (18 * (h.2.2.2 110 30))))) + x1)) ∧ (am_w ((am_w (31 + (am_w (18 * (h.2.2.2 110 30))))) + x1)) < 3336)) ∧ (∀ h4 : am_H, h4 = am_put h 110 ((am_w ((am_w (31 + (am_w (18 * (h.2.2.2 110 30))))) + x1)).toNat) (h.2.2.2 116 x1.toNat) → (∀ y5 : Int, y5 = am_w (x1 + 1) → (am_R (am_prog scr) d f_M_notes 58 [some (.inr (.inr ((109 : Nat) : Int))), some (.inl y5)] [] h4 Q))))))) : am_R (am_prog scr) d f_M_notes 58 [some (.inr (.inr ((109 : Nat) : Int))), some (.inl x1)] [] h Q := by
  have hp : ∀ k, (am_prog scr).1 f_M_notes k = c_M_notes k := fun _ => rfl
  refine am_R.next ((hp 58).trans rfl) rfl ?_
  refine am_R.next ((hp 59).trans rfl) rfl ?_
  refine r_ic ((hp 61).trans rfl) (fun c6 => ?_) (fun c6 => ?_)
  · have H := H.1 c6
    refine am_R.next ((hp 96).trans rfl) rfl ?_
    refine r_getR ((hp 97).trans rfl) (hw.o (i := 109) (by decide) rfl) (hw.r wr_109_1) ?_
    refine am_R.next ((hp 100).trans rfl) rfl ?_
    refine am_R.next ((hp 102).trans rfl) rfl ?_
    refine r_iald ((hp 103).trans rfl) (hw.a (i := 110) (by decide) rfl (by decide) (by decide)) ?_
    refine am_R.next ((hp 104).trans rfl) rfl ?_
    refine am_R.next ((hp 105).trans rfl) rfl ?_
    obtain ⟨h1, eh1⟩ : ∃ z : am_H, z = am_put h 110 30 (am_w ((h.2.2.2 110 30) + 1)) := ⟨_, rfl⟩
    have H := H h1 eh1
    refine r_iast ((hp 106).trans rfl) (hw.a (i := 110) (by decide) rfl (by decide) (by decide)) ?_
    have hw : wf h1 := by rw [eh1]; exact hw.pa na_110
    change am_R _ _ _ _ _ _ (am_put h 110 30 (am_w ((h.2.2.2 110 30) + 1))) _
    rw [← eh1]
    exact am_R.ret ((hp 107).trans rfl) rfl H
  · have H := H.2 (Decidable.not_not.mp c6)
    refine am_R.next ((hp 64).trans rfl) rfl ?_
    refine r_getR ((hp 65).trans rfl) (hw.o (i := 109) (by decide) rfl) (hw.r wr_109_1) ?_
    refine am_R.next ((hp 68).trans rfl) rfl ?_
    refine am_R.next ((hp 70).trans rfl) rfl ?_
    refine am_R.next ((hp 72).trans rfl) rfl ?_
    refine r_getR ((hp 73).trans rfl) (hw.o (i := 109) (by decide) rfl) (hw.r wr_109_1) ?_
    refine am_R.next ((hp 76).trans rfl) rfl ?_
    refine r_iald ((hp 78).trans rfl) (hw.a (i := 110) (by decide) rfl (by decide) (by decide)) ?_
    refine am_R.next ((hp 79).trans rfl) rfl ?_
    refine am_R.next ((hp 80).trans rfl) rfl ?_
    refine am_R.next ((hp 81).trans rfl) rfl ?_
    refine am_R.next ((hp 82).trans rfl) rfl ?_
    refine am_R.next ((hp 83).trans rfl) rfl ?_
    refine r_getR ((hp 84).trans rfl) (hw.o (i := 109) (by decide) rfl) (hw.r wr_109_17) ?_
    refine am_R.next ((hp 87).trans rfl) rfl ?_
    obtain ⟨c2, H⟩ := H
    refine r_iald ((hp 88).trans rfl) (hw.a (i := 116) (by decide) rfl c2.1 c2.2) ?_
    obtain ⟨c3, H⟩ := H
    obtain ⟨h4, eh4⟩ : ∃ z : am_H, z = am_put h 110 ((am_w ((am_w (31 + (am_w (18 * (h.2.2.2 110 30))))) + x1)).toNat) (h.2.2.2 116 x1.toNat) := ⟨_, rfl⟩
    have H := H h4 eh4
    refine r_iast ((hp 89).trans rfl) (hw.a (i := 110) (by decide) rfl c3.1 c3.2) ?_
    have hw : wf h4 := by rw [eh4]; exact hw.pa na_110
    change am_R _ _ _ _ _ _ (am_put h 110 ((am_w ((am_w (31 + (am_w (18 * (h.2.2.2 110 30))))) + x1)).toNat) (h.2.2.2 116 x1.toNat)) _
    rw [← eh4]
    obtain ⟨y5, ey5⟩ : ∃ z : Int, z = am_w (x1 + 1) := ⟨_, rfl⟩
    have H := H y5 ey5
    refine am_R.next (lv' := [some (.inr (.inr ((109 : Nat) : Int))), some (.inl y5)]) (st' := []) (h' := h4) (pc' := 93) ((hp 90).trans rfl) (by rw [ey5]; rfl) ?_
    refine am_R.next ((hp 93).trans rfl) rfl ?_
    exact H
theorem w_M_goesBeat_0 {scr : Nat × (Nat → Int)} {d : Nat} {h : am_H} {Q : Option am_V → am_H → Prop} {x1 : Int} (hs : am_sc scr) (hw : wf h) (H : am_R (am_prog scr) d f_M_standNow 0 [some (.inr (.inr ((109 : Nat) : Int)))] [] h (fun v g1 => ∃ r2 : Int, v = some (.inl r2) ∧ wf g1 ∧ (am_R (am_prog scr) d f_M_beatTo 0 [some (.inr (.inr ((109 : Nat) : Int))), some (.inl r2), some (.inl (am_w (x1 - 1))), some (.inl (g1.2.2.2 110 28)), none, none, none] [] g1 (fun v g3 => ∃ r4 : Int, v = some (.inl r4) ∧ wf g3 ∧ (am_R (am_prog scr) d f_M_isStand 0 [some (.inr (.inr ((109 : Nat) : Int))), some (.inl r4)] [] g3 (fun v g5 => v = none ∧ wf g5 ∧ ((¬ ((g5.2.2.2 110 15) = 0) → (Q none g5)) ∧ ((g5.2.2.2 110 15) = 0 → (∀ h6 : am_H, h6 = am_put g5 110 29 (am_w ((g5.2.2.2 110 29) + 1)) → (Q none h6)))))))))) : am_R (am_prog scr) (d + 1) f_M_goesBeat 0 [some (.inr (.inr ((109 : Nat) : Int))), some (.inl x1)] [] h Q := by
  have hp : ∀ k, (am_prog scr).1 f_M_goesBeat k = c_M_goesBeat k := fun _ => rfl
  refine am_R.next ((hp 0).trans rfl) rfl ?_
  refine am_R.next ((hp 1).trans rfl) rfl ?_
  refine am_R.next ((hp 2).trans rfl) rfl ?_
  refine r_cv (bs := []) (st' := [.inr (.inr ((109 : Nat) : Int)), .inr (.inr ((109 : Nat) : Int))]) ((hp 3).trans rfl) (hw.o (i := 109) (by decide) rfl) rfl rfl (Nat.le_of_ble_eq_true rfl) (Nat.le_of_ble_eq_true rfl) (am_R.post H (fun v g1 hq => ?_))
  obtain ⟨r2, rfl, hw, H⟩ := hq
  change am_R _ _ _ _ _ [.inl r2, .inr (.inr ((109 : Nat) : Int)), .inr (.inr ((109 : Nat) : Int))] _ _
  refine am_R.next ((hp 6).trans rfl) rfl ?_
  refine am_R.next ((hp 7).trans rfl) rfl ?_
  refine am_R.next ((hp 8).trans rfl) rfl ?_
  refine am_R.next ((hp 9).trans rfl) rfl ?_
  refine r_getR ((hp 10).trans rfl) (hw.o (i := 109) (by decide) rfl) (hw.r wr_109_1) ?_
  refine am_R.next ((hp 13).trans rfl) rfl ?_
  refine r_iald ((hp 15).trans rfl) (hw.a (i := 110) (by decide) rfl (by decide) (by decide)) ?_
  refine r_cv (bs := [.inl r2, .inl (am_w (x1 - 1)), .inl (g1.2.2.2 110 28)]) (st' := [.inr (.inr ((109 : Nat) : Int))]) ((hp 16).trans rfl) (hw.o (i := 109) (by decide) rfl) rfl rfl (Nat.le_of_ble_eq_true rfl) (Nat.le_of_ble_eq_true rfl) (am_R.post H (fun v g3 hq => ?_))
  obtain ⟨r4, rfl, hw, H⟩ := hq
  change am_R _ _ _ _ _ [.inl r4, .inr (.inr ((109 : Nat) : Int))] _ _
  refine r_cv (bs := [.inl r4]) (st' := []) ((hp 19).trans rfl) (hw.o (i := 109) (by decide) rfl) rfl rfl (Nat.le_of_ble_eq_true rfl) (Nat.le_of_ble_eq_true rfl) (am_R.post H (fun v g5 hq => ?_))
  obtain ⟨rfl, hw, H⟩ := hq
  change am_R _ _ _ _ _ [] _ _
  refine am_R.next ((hp 22).trans rfl) rfl ?_
  refine r_getR ((hp 23).trans rfl) (hw.o (i := 109) (by decide) rfl) (hw.r wr_109_1) ?_
  refine am_R.next ((hp 26).trans rfl) rfl ?_
  refine r_iald ((hp 28).trans rfl) (hw.a (i := 110) (by decide) rfl (by decide) (by decide)) ?_
  refine r_if ((hp 29).trans rfl) (fun c7 => ?_) (fun c7 => ?_)
  · have H := H.1 c7
    exact am_R.ret ((hp 43).trans rfl) rfl H
  · have H := H.2 (Decidable.not_not.mp c7)
    refine am_R.next ((hp 32).trans rfl) rfl ?_
    refine r_getR ((hp 33).trans rfl) (hw.o (i := 109) (by decide) rfl) (hw.r wr_109_1) ?_
    refine am_R.next ((hp 36).trans rfl) rfl ?_
    refine am_R.next ((hp 38).trans rfl) rfl ?_
    refine r_iald ((hp 39).trans rfl) (hw.a (i := 110) (by decide) rfl (by decide) (by decide)) ?_
    refine am_R.next ((hp 40).trans rfl) rfl ?_
    refine am_R.next ((hp 41).trans rfl) rfl ?_
    obtain ⟨h6, eh6⟩ : ∃ z : am_H, z = am_put g5 110 29 (am_w ((g5.2.2.2 110 29) + 1)) := ⟨_, rfl⟩
    have H := H h6 eh6
    refine r_iast ((hp 42).trans rfl) (hw.a (i := 110) (by decide) rfl (by decide) (by decide)) ?_
    have hw : wf h6 := by rw [eh6]; exact hw.pa na_110
    change am_R _ _ _ _ _ _ (am_put g5 110 29 (am_w ((g5.2.2.2 110 29) + 1))) _
    rw [← eh6]
    exact am_R.ret ((hp 43).trans rfl) rfl H
theorem w_M_beat_0 {scr : Nat × (Nat → Int)} {d : Nat} {h : am_H} {Q : Option am_V → am_H → Prop} {x1 : Int} (hs : am_sc scr) (hw : wf h) (H : ∀ h1 : am_H, h1 = am_put h 109 0 0 → (am_R (am_prog scr) d f_M_standNow 0 [some (.inr (.inr ((109 : Nat) : Int)))] [] h1 (fun v g2 => ∃ r3 : Int, v = some (.inl r3) ∧ wf g2 ∧ (am_R (am_prog scr) d f_M_whyBeat 0 [some (.inr (.inr ((109 : Nat) : Int))), some (.inl r3), some (.inr (.inl x1)), none] [] g2 (fun v g4 => ∃ r5 : Int, v = some (.inl r5) ∧ wf g4 ∧ ((r5 = 0 → (am_R (am_prog scr) d f_M_stores 0 [some (.inr (.inr ((109 : Nat) : Int))), none] [] g4 (fun v g6 => v = none ∧ wf g6 ∧ (am_R (am_prog scr) d f_M_goesBeat 0 [some (.inr (.inr ((109 : Nat) : Int))), some (.inl x1)] [] g6 (fun v g7 => v = none ∧ wf g7 ∧ (am_R (am_prog scr) d f_M_notes 0 [some (.inr (.inr ((109 : Nat) : Int))), none] [] g7 (fun v g8 => v = none ∧ wf g8 ∧ ((¬ ((g8.2.2.2 110 15) = 1) → (Q (some (.inl (g8.2.2.2 110 12))) g8)) ∧ ((g8.2.2.2 110 15) = 1 → (Q (some (.inl (-1))) g8)))))))))) ∧ (¬ (r5 = 0) → (Q (some (.inl (am_w ((-10) - r5)))) g4)))))))) : am_R (am_prog scr) (d + 1) f_M_beat 0 [some (.inr (.inr ((109 : Nat) : Int))), some (.inl x1), none] [] h Q := by
  have hp : ∀ k, (am_prog scr).1 f_M_beat k = c_M_beat k := fun _ => rfl
  refine am_R.next ((hp 0).trans rfl) rfl ?_
  refine am_R.next ((hp 1).trans rfl) rfl ?_
  obtain ⟨h1, eh1⟩ : ∃ z : am_H, z = am_put h 109 0 0 := ⟨_, rfl⟩
  have H := H h1 eh1
  refine r_putI ((hp 2).trans rfl) (hw.o (i := 109) (by decide) rfl) ?_
  have hw : wf h1 := by rw [eh1]; exact hw.put np_109_0
  change am_R _ _ _ _ _ _ (am_put h 109 0 0) _
  rw [← eh1]
  refine am_R.next ((hp 5).trans rfl) rfl ?_
  refine am_R.next ((hp 6).trans rfl) rfl ?_
  refine r_cv (bs := []) (st' := [.inr (.inr ((109 : Nat) : Int))]) ((hp 7).trans rfl) (hw.o (i := 109) (by decide) rfl) rfl rfl (Nat.le_of_ble_eq_true rfl) (Nat.le_of_ble_eq_true rfl) (am_R.post H (fun v g2 hq => ?_))
  obtain ⟨r3, rfl, hw, H⟩ := hq
  change am_R _ _ _ _ _ [.inl r3, .inr (.inr ((109 : Nat) : Int))] _ _
  refine am_R.next ((hp 10).trans rfl) rfl ?_
  refine am_R.next ((hp 11).trans rfl) rfl ?_
  refine r_cv (bs := [.inl r3, .inr (.inl x1)]) (st' := []) ((hp 12).trans rfl) (hw.o (i := 109) (by decide) rfl) rfl rfl (Nat.le_of_ble_eq_true rfl) (Nat.le_of_ble_eq_true rfl) (am_R.post H (fun v g4 hq => ?_))
  obtain ⟨r5, rfl, hw, H⟩ := hq
  change am_R _ _ _ _ _ [.inl r5] _ _
  refine am_R.next (lv' := [some (.inr (.inr ((109 : Nat) : Int))), some (.inl x1), some (.inl r5)]) ((hp 15).trans rfl) rfl ?_
  refine am_R.next ((hp 16).trans rfl) rfl ?_
  refine r_if ((hp 17).trans rfl) (fun c10 => ?_) (fun c10 => ?_)
  · have H := H.1 c10
    refine am_R.next ((hp 25).trans rfl) rfl ?_
    refine r_cv (bs := []) (st' := []) ((hp 26).trans rfl) (hw.o (i := 109) (by decide) rfl) rfl rfl (Nat.le_of_ble_eq_true rfl) (Nat.le_of_ble_eq_true rfl) (am_R.post H (fun v g6 hq => ?_))
    obtain ⟨rfl, hw, H⟩ := hq
    change am_R _ _ _ _ _ [] _ _
    refine am_R.next ((hp 29).trans rfl) rfl ?_
    refine am_R.next ((hp 30).trans rfl) rfl ?_
    refine r_cv (bs := [.inl x1]) (st' := []) ((hp 31).trans rfl) (hw.o (i := 109) (by decide) rfl) rfl rfl (Nat.le_of_ble_eq_true rfl) (Nat.le_of_ble_eq_true rfl) (am_R.post H (fun v g7 hq => ?_))
    obtain ⟨rfl, hw, H⟩ := hq
    change am_R _ _ _ _ _ [] _ _
    refine am_R.next ((hp 34).trans rfl) rfl ?_
    refine r_cv (bs := []) (st' := []) ((hp 35).trans rfl) (hw.o (i := 109) (by decide) rfl) rfl rfl (Nat.le_of_ble_eq_true rfl) (Nat.le_of_ble_eq_true rfl) (am_R.post H (fun v g8 hq => ?_))
    obtain ⟨rfl, hw, H⟩ := hq
    change am_R _ _ _ _ _ [] _ _
    refine am_R.next ((hp 38).trans rfl) rfl ?_
    refine r_getR ((hp 39).trans rfl) (hw.o (i := 109) (by decide) rfl) (hw.r wr_109_1) ?_
    refine am_R.next ((hp 42).trans rfl) rfl ?_
    refine r_iald ((hp 44).trans rfl) (hw.a (i := 110) (by decide) rfl (by decide) (by decide)) ?_
    refine am_R.next ((hp 45).trans rfl) rfl ?_
    refine r_ic ((hp 46).trans rfl) (fun c9 => ?_) (fun c9 => ?_)
    · have H := H.1 c9
      refine am_R.next ((hp 53).trans rfl) rfl ?_
      refine r_getR ((hp 54).trans rfl) (hw.o (i := 109) (by decide) rfl) (hw.r wr_109_1) ?_
      refine am_R.next ((hp 57).trans rfl) rfl ?_
      refine r_iald ((hp 59).trans rfl) (hw.a (i := 110) (by decide) rfl (by decide) (by decide)) ?_
      exact am_R.ret ((hp 60).trans rfl) rfl H
    · have H := H.2 (Decidable.not_not.mp c9)
      refine am_R.next ((hp 49).trans rfl) rfl ?_
      refine am_R.next ((hp 50).trans rfl) rfl ?_
      exact am_R.ret ((hp 60).trans rfl) rfl H
  · have H := H.2 c10
    refine am_R.next ((hp 20).trans rfl) rfl ?_
    refine am_R.next ((hp 22).trans rfl) rfl ?_
    refine am_R.next ((hp 23).trans rfl) rfl ?_
    exact am_R.ret ((hp 24).trans rfl) rfl H
theorem w_M_beats_0 {scr : Nat × (Nat → Int)} {d : Nat} {h : am_H} {Q : Option am_V → am_H → Prop} {x1 : Int} (hs : am_sc scr) (hw : wf h) (H : ∀ h1 : am_H, h1 = am_put h 109 0 0 → (am_R (am_prog scr) d f_M_within 0 [some (.inr (.inl x1)), none, some (.inr (.inl 1)), none, some (.inr (.inl 99)), none] [] h1 (fun v g2 => ∃ r3 : Int, v = some (.inl r3) ∧ wf g2 ∧ ((¬ (r3 = 0) → (am_R (am_prog scr) d f_M_standNow 0 [some (.inr (.inr ((109 : Nat) : Int)))] [] g2 (fun v g4 => ∃ r5 : Int, v = some (.inl r5) ∧ wf g4 ∧ (am_R (am_prog scr) d f_M_isOver 0 [some (.inr (.inr ((109 : Nat) : Int))), some (.inl r5)] [] g4 (fun v g6 => ∃ r7 : Int, v = some (.inl r7) ∧ wf g6 ∧ ((r7 = 0 → (am_R (am_prog scr) d f_M_stores 0 [some (.inr (.inr ((109 : Nat) : Int))), none] [] g6 (fun v g8 => v = none ∧ wf g8 ∧ (am_R (am_prog scr) (d + 1) f_M_beats 39 [some (.inr (.inr ((109 : Nat) : Int))), some (.inl x1), some (.inl 0)] [] g8 Q)))) ∧ (¬ (r7 = 0) → (Q (some (.inl 0)) g6)))))))) ∧ (r3 = 0 → (Q (some (.inl (-3))) g2)))))) : am_R (am_prog scr) (d + 1) f_M_beats 0 [some (.inr (.inr ((109 : Nat) : Int))), some (.inl x1), none] [] h Q := by
  have hp : ∀ k, (am_prog scr).1 f_M_beats k = c_M_beats k := fun _ => rfl
  refine am_R.next ((hp 0).trans rfl) rfl ?_
  refine am_R.next ((hp 1).trans rfl) rfl ?_
  obtain ⟨h1, eh1⟩ : ∃ z : am_H, z = am_put h 109 0 0 := ⟨_, rfl⟩
  have H := H h1 eh1
  refine r_putI ((hp 2).trans rfl) (hw.o (i := 109) (by decide) rfl) ?_
  have hw : wf h1 := by rw [eh1]; exact hw.put np_109_0
  change am_R _ _ _ _ _ _ (am_put h 109 0 0) _
  rw [← eh1]
  refine am_R.next ((hp 5).trans rfl) rfl ?_
  refine am_R.next ((hp 6).trans rfl) rfl ?_
  refine am_R.next ((hp 7).trans rfl) rfl ?_
  refine am_R.next ((hp 8).trans rfl) rfl ?_
  refine r_cs (as := [.inr (.inl x1), .inr (.inl 1), .inr (.inl 99)]) (st' := []) ((hp 11).trans rfl) rfl rfl (Nat.le_of_ble_eq_true rfl) (Nat.le_of_ble_eq_true rfl) (am_R.post H (fun v g2 hq => ?_))
  obtain ⟨r3, rfl, hw, H⟩ := hq
  change am_R _ _ _ _ _ [.inl r3] _ _
  refine r_if ((hp 14).trans rfl) (fun c10 => ?_) (fun c10 => ?_)
  · have H := H.1 c10
    refine am_R.next ((hp 20).trans rfl) rfl ?_
    refine am_R.next ((hp 21).trans rfl) rfl ?_
    refine r_cv (bs := []) (st' := [.inr (.inr ((109 : Nat) : Int))]) ((hp 22).trans rfl) (hw.o (i := 109) (by decide) rfl) rfl rfl (Nat.le_of_ble_eq_true rfl) (Nat.le_of_ble_eq_true rfl) (am_R.post H (fun v g4 hq => ?_))
    obtain ⟨r5, rfl, hw, H⟩ := hq
    change am_R _ _ _ _ _ [.inl r5, .inr (.inr ((109 : Nat) : Int))] _ _
    refine r_cv (bs := [.inl r5]) (st' := []) ((hp 25).trans rfl) (hw.o (i := 109) (by decide) rfl) rfl rfl (Nat.le_of_ble_eq_true rfl) (Nat.le_of_ble_eq_true rfl) (am_R.post H (fun v g6 hq => ?_))
    obtain ⟨r7, rfl, hw, H⟩ := hq
    change am_R _ _ _ _ _ [.inl r7] _ _
    refine r_if ((hp 28).trans rfl) (fun c9 => ?_) (fun c9 => ?_)
    · have H := H.1 c9
      refine am_R.next ((hp 33).trans rfl) rfl ?_
      refine r_cv (bs := []) (st' := []) ((hp 34).trans rfl) (hw.o (i := 109) (by decide) rfl) rfl rfl (Nat.le_of_ble_eq_true rfl) (Nat.le_of_ble_eq_true rfl) (am_R.post H (fun v g8 hq => ?_))
      obtain ⟨rfl, hw, H⟩ := hq
      change am_R _ _ _ _ _ [] _ _
      refine am_R.next ((hp 37).trans rfl) rfl ?_
      refine am_R.next (lv' := [some (.inr (.inr ((109 : Nat) : Int))), some (.inl x1), some (.inl 0)]) ((hp 38).trans rfl) rfl ?_
      exact H
    · have H := H.2 c9
      refine am_R.next ((hp 31).trans rfl) rfl ?_
      exact am_R.ret ((hp 32).trans rfl) rfl H
  · have H := H.2 (Decidable.not_not.mp c10)
    refine am_R.next ((hp 17).trans rfl) rfl ?_
    exact am_R.ret ((hp 19).trans rfl) rfl H
theorem w_M_beats_39 {scr : Nat × (Nat → Int)} {d : Nat} {h : am_H} {Q : Option am_V → am_H → Prop} {x1 x2 : Int} (hs : am_sc scr) (hw : wf h) (H : (¬ (x2 < x1) → (am_R (am_prog scr) (d + 1) f_M_beats 66 [some (.inr (.inr ((109 : Nat) : Int))), some (.inl x1), some (.inl x2)] [] h Q)) ∧ (x2 < x1 → (am_R (am_prog scr) d f_M_standNow 0 [some (.inr (.inr ((109 : Nat) : Int)))] [] h (fun v g1 => ∃ r2 : Int, v = some (.inl r2) ∧ wf g1 ∧ (am_R (am_prog scr) d f_M_isOver 0 [some (.inr (.inr ((109 : Nat) : Int))), some (.inl r2)] [] g1 (fun v g3 => ∃ r4 : Int, v = some (.inl r4) ∧ wf g3 ∧ ((¬ (r4 = 0) → (am_R (am_prog scr) (d + 1) f_M_beats 66 [some (.inr (.inr ((109 : Nat) : Int))), some (.inl x1), some (.inl x2)] [] g3 Q)) ∧ (r4 = 0 → (am_R (am_prog scr) d f_M_goesBeat 0 [some (.inr (.inr ((109 : Nat) : Int))), some (.inl 0)] [] g3 (fun v g5 => v = none ∧ wf g5 ∧ (∀ y6 : Int, y6 = am_w (x2 + 1) → (am_R (am_prog scr) (d + 1) f_M_beats 39 [some (.inr (.inr ((109 : Nat) : Int))), some (.inl x1), some (.inl y6)] [] g5 Q)))))))))))) : am_R (am_prog scr) (d + 1) f_M_beats 39 [some (.inr (.inr ((109 : Nat) : Int))), some (.inl x1), some (.inl x2)] [] h Q := by
  have hp : ∀ k, (am_prog scr).1 f_M_beats k = c_M_beats k := fun _ => rfl
  refine am_R.next ((hp 39).trans rfl) rfl ?_
  refine am_R.next ((hp 40).trans rfl) rfl ?_
  refine r_ic ((hp 41).trans rfl) (fun c8 => ?_) (fun c8 => ?_)
  · have H := H.1 c8
    exact H
  · have H := H.2 (Decidable.not_not.mp c8)
    refine am_R.next ((hp 44).trans rfl) rfl ?_
    refine am_R.next ((hp 45).trans rfl) rfl ?_
    refine r_cv (bs := []) (st' := [.inr (.inr ((109 : Nat) : Int))]) ((hp 46).trans rfl) (hw.o (i := 109) (by decide) rfl) rfl rfl (Nat.le_of_ble_eq_true rfl) (Nat.le_of_ble_eq_true rfl) (am_R.post H (fun v g1 hq => ?_))
    obtain ⟨r2, rfl, hw, H⟩ := hq
    change am_R _ _ _ _ _ [.inl r2, .inr (.inr ((109 : Nat) : Int))] _ _
    refine r_cv (bs := [.inl r2]) (st' := []) ((hp 49).trans rfl) (hw.o (i := 109) (by decide) rfl) rfl rfl (Nat.le_of_ble_eq_true rfl) (Nat.le_of_ble_eq_true rfl) (am_R.post H (fun v g3 hq => ?_))
    obtain ⟨r4, rfl, hw, H⟩ := hq
    change am_R _ _ _ _ _ [.inl r4] _ _
    refine r_if ((hp 52).trans rfl) (fun c7 => ?_) (fun c7 => ?_)
    · have H := H.1 c7
      exact H
    · have H := H.2 (Decidable.not_not.mp c7)
      refine am_R.next ((hp 55).trans rfl) rfl ?_
      refine am_R.next ((hp 56).trans rfl) rfl ?_
      refine r_cv (bs := [.inl 0]) (st' := []) ((hp 57).trans rfl) (hw.o (i := 109) (by decide) rfl) rfl rfl (Nat.le_of_ble_eq_true rfl) (Nat.le_of_ble_eq_true rfl) (am_R.post H (fun v g5 hq => ?_))
      obtain ⟨rfl, hw, H⟩ := hq
      change am_R _ _ _ _ _ [] _ _
      obtain ⟨y6, ey6⟩ : ∃ z : Int, z = am_w (x2 + 1) := ⟨_, rfl⟩
      have H := H y6 ey6
      refine am_R.next (lv' := [some (.inr (.inr ((109 : Nat) : Int))), some (.inl x1), some (.inl y6)]) (st' := []) (h' := g5) (pc' := 63) ((hp 60).trans rfl) (by rw [ey6]; rfl) ?_
      refine am_R.next ((hp 63).trans rfl) rfl ?_
      exact H
theorem w_M_beats_66 {scr : Nat × (Nat → Int)} {d : Nat} {h : am_H} {Q : Option am_V → am_H → Prop} {x1 x2 : Int} (hs : am_sc scr) (hw : wf h) (H : am_R (am_prog scr) d f_M_notes 0 [some (.inr (.inr ((109 : Nat) : Int))), none] [] h (fun v g1 => v = none ∧ wf g1 ∧ (Q (some (.inl (am_w ((g1.2.2.2 110 29) - (g1.2.2.2 116 17))))) g1))) : am_R (am_prog scr) (d + 1) f_M_beats 66 [some (.inr (.inr ((109 : Nat) : Int))), some (.inl x1), some (.inl x2)] [] h Q := by
  have hp : ∀ k, (am_prog scr).1 f_M_beats k = c_M_beats k := fun _ => rfl
  refine am_R.next ((hp 66).trans rfl) rfl ?_
  refine r_cv (bs := []) (st' := []) ((hp 67).trans rfl) (hw.o (i := 109) (by decide) rfl) rfl rfl (Nat.le_of_ble_eq_true rfl) (Nat.le_of_ble_eq_true rfl) (am_R.post H (fun v g1 hq => ?_))
  obtain ⟨rfl, hw, H⟩ := hq
  change am_R _ _ _ _ _ [] _ _
  refine am_R.next ((hp 70).trans rfl) rfl ?_
  refine r_getR ((hp 71).trans rfl) (hw.o (i := 109) (by decide) rfl) (hw.r wr_109_1) ?_
  refine am_R.next ((hp 74).trans rfl) rfl ?_
  refine r_iald ((hp 76).trans rfl) (hw.a (i := 110) (by decide) rfl (by decide) (by decide)) ?_
  refine am_R.next ((hp 77).trans rfl) rfl ?_
  refine r_getR ((hp 78).trans rfl) (hw.o (i := 109) (by decide) rfl) (hw.r wr_109_17) ?_
  refine am_R.next ((hp 81).trans rfl) rfl ?_
  refine r_iald ((hp 83).trans rfl) (hw.a (i := 116) (by decide) rfl (by decide) (by decide)) ?_
  refine am_R.next ((hp 84).trans rfl) rfl ?_
  exact am_R.ret ((hp 85).trans rfl) rfl H
theorem w_M_changes_0 {scr : Nat × (Nat → Int)} {d : Nat} {h : am_H} {Q : Option am_V → am_H → Prop} {x1 x2 : Int} (hs : am_sc scr) (hw : wf h) (H : (0 ≤ (am_w (16 + x1)) ∧ (am_w (16 + x1)) < 3336) ∧ (∀ y2 : Int, y2 = h.2.2.2 110 ((am_w (16 + x1)).toNat) → ((0 ≤ (am_w (16 + x2)) ∧ (am_w (16 + x2)) < 3336) ∧ (((0 ≤ (am_w (16 + x1)) ∧ (am_w (16 + x1)) < 3336)) ∧ (∀ h5 : am_H, h5 = am_put h 110 ((am_w (16 + x1)).toNat) (h.2.2.2 110 ((am_w (16 + x2)).toNat)) → (((0 ≤ (am_w (16 + x2)) ∧ (am_w (16 + x2)) < 3336)) ∧ (∀ h7 : am_H, h7 = am_put h5 110 ((am_w (16 + x2)).toNat) y2 → (Q none h7)))))))) : am_R (am_prog scr) d f_M_changes 0 [some (.inr (.inr ((109 : Nat) : Int))), some (.inl x1), some (.inl x2), none] [] h Q := by
  have hp : ∀ k, (am_prog scr).1 f_M_changes k = c_M_changes k := fun _ => rfl
  refine am_R.next ((hp 0).trans rfl) rfl ?_
  refine r_getR ((hp 1).trans rfl) (hw.o (i := 109) (by decide) rfl) (hw.r wr_109_1) ?_
  refine am_R.next ((hp 4).trans rfl) rfl ?_
  refine am_R.next ((hp 6).trans rfl) rfl ?_
  refine am_R.next ((hp 7).trans rfl) rfl ?_
  obtain ⟨c1, H⟩ := H
  refine r_iald ((hp 8).trans rfl) (hw.a (i := 110) (by decide) rfl c1.1 c1.2) ?_
  obtain ⟨y2, ey2⟩ : ∃ z : Int, z = h.2.2.2 110 ((am_w (16 + x1)).toNat) := ⟨_, rfl⟩
  have H := H y2 ey2
  refine am_R.next (lv' := [some (.inr (.inr ((109 : Nat) : Int))), some (.inl x1), some (.inl x2), some (.inl y2)]) (st' := []) (h' := h) (pc' := 10) ((hp 9).trans rfl) (by rw [ey2]; rfl) ?_
  refine am_R.next ((hp 10).trans rfl) rfl ?_
  refine r_getR ((hp 11).trans rfl) (hw.o (i := 109) (by decide) rfl) (hw.r wr_109_1) ?_
  refine am_R.next ((hp 14).trans rfl) rfl ?_
  refine am_R.next ((hp 16).trans rfl) rfl ?_
  refine am_R.next ((hp 17).trans rfl) rfl ?_
  refine am_R.next ((hp 18).trans rfl) rfl ?_
  refine r_getR ((hp 19).trans rfl) (hw.o (i := 109) (by decide) rfl) (hw.r wr_109_1) ?_
  refine am_R.next ((hp 22).trans rfl) rfl ?_
  refine am_R.next ((hp 24).trans rfl) rfl ?_
  refine am_R.next ((hp 25).trans rfl) rfl ?_
  obtain ⟨c3, H⟩ := H
  refine r_iald ((hp 26).trans rfl) (hw.a (i := 110) (by decide) rfl c3.1 c3.2) ?_
  obtain ⟨c4, H⟩ := H
  obtain ⟨h5, eh5⟩ : ∃ z : am_H, z = am_put h 110 ((am_w (16 + x1)).toNat) (h.2.2.2 110 ((am_w (16 + x2)).toNat)) := ⟨_, rfl⟩
  have H := H h5 eh5
  refine r_iast ((hp 27).trans rfl) (hw.a (i := 110) (by decide) rfl c4.1 c4.2) ?_
  have hw : wf h5 := by rw [eh5]; exact hw.pa na_110
  change am_R _ _ _ _ _ _ (am_put h 110 ((am_w (16 + x1)).toNat) (h.2.2.2 110 ((am_w (16 + x2)).toNat))) _
  rw [← eh5]
  refine am_R.next ((hp 28).trans rfl) rfl ?_
  refine r_getR ((hp 29).trans rfl) (hw.o (i := 109) (by decide) rfl) (hw.r wr_109_1) ?_
  refine am_R.next ((hp 32).trans rfl) rfl ?_
  refine am_R.next ((hp 34).trans rfl) rfl ?_
  refine am_R.next ((hp 35).trans rfl) rfl ?_
  refine am_R.next ((hp 36).trans rfl) rfl ?_
  obtain ⟨c6, H⟩ := H
  obtain ⟨h7, eh7⟩ : ∃ z : am_H, z = am_put h5 110 ((am_w (16 + x2)).toNat) y2 := ⟨_, rfl⟩
  have H := H h7 eh7
  refine r_iast ((hp 37).trans rfl) (hw.a (i := 110) (by decide) rfl c6.1 c6.2) ?_
  have hw : wf h7 := by rw [eh7]; exact hw.pa na_110
  change am_R _ _ _ _ _ _ (am_put h5 110 ((am_w (16 + x2)).toNat) y2) _
  rw [← eh7]
  exact am_R.ret ((hp 38).trans rfl) rfl H
theorem w_M_change_0 {scr : Nat × (Nat → Int)} {d : Nat} {h : am_H} {Q : Option am_V → am_H → Prop} {x1 x2 : Int} (hs : am_sc scr) (hw : wf h) (H : ∀ h1 : am_H, h1 = am_put h 109 0 0 → (am_R (am_prog scr) d f_M_areTwo 0 [some (.inr (.inr ((109 : Nat) : Int))), some (.inr (.inl x1)), none, some (.inr (.inl x2)), none] [] h1 (fun v g2 => ∃ r3 : Int, v = some (.inl r3) ∧ wf g2 ∧ ((¬ (r3 = 0) → (am_R (am_prog scr) d f_M_stores 0 [some (.inr (.inr ((109 : Nat) : Int))), none] [] g2 (fun v g4 => v = none ∧ wf g4 ∧ (am_R (am_prog scr) d f_M_changes 0 [some (.inr (.inr ((109 : Nat) : Int))), some (.inl x1), some (.inl x2), none] [] g4 (fun v g5 => v = none ∧ wf g5 ∧ (am_R (am_prog scr) d f_M_notes 0 [some (.inr (.inr ((109 : Nat) : Int))), none] [] g5 (fun v g6 => v = none ∧ wf g6 ∧ ((0 ≤ (am_w (16 + x1)) ∧ (am_w (16 + x1)) < 3336) ∧ (Q (some (.inl (g6.2.2.2 110 ((am_w (16 + x1)).toNat)))) g6))))))))) ∧ (r3 = 0 → (Q (some (.inl (-11))) g2)))))) : am_R (am_prog scr) (d + 1) f_M_change 0 [some (.inr (.inr ((109 : Nat) : Int))), some (.inl x1), some (.inl x2)] [] h Q := by
  have hp : ∀ k, (am_prog scr).1 f_M_change k = c_M_change k := fun _ => rfl
  refine am_R.next ((hp 0).trans rfl) rfl ?_
  refine am_R.next ((hp 1).trans rfl) rfl ?_
  obtain ⟨h1, eh1⟩ : ∃ z : am_H, z = am_put h 109 0 0 := ⟨_, rfl⟩
  have H := H h1 eh1
  refine r_putI ((hp 2).trans rfl) (hw.o (i := 109) (by decide) rfl) ?_
  have hw : wf h1 := by rw [eh1]; exact hw.put np_109_0
  change am_R _ _ _ _ _ _ (am_put h 109 0 0) _
  rw [← eh1]
  refine am_R.next ((hp 5).trans rfl) rfl ?_
  refine am_R.next ((hp 6).trans rfl) rfl ?_
  refine am_R.next ((hp 7).trans rfl) rfl ?_
  refine am_R.next ((hp 8).trans rfl) rfl ?_
  refine am_R.next ((hp 9).trans rfl) rfl ?_
  refine r_cv (bs := [.inr (.inl x1), .inr (.inl x2)]) (st' := []) ((hp 10).trans rfl) (hw.o (i := 109) (by decide) rfl) rfl rfl (Nat.le_of_ble_eq_true rfl) (Nat.le_of_ble_eq_true rfl) (am_R.post H (fun v g2 hq => ?_))
  obtain ⟨r3, rfl, hw, H⟩ := hq
  change am_R _ _ _ _ _ [.inl r3] _ _
  refine r_if ((hp 13).trans rfl) (fun c8 => ?_) (fun c8 => ?_)
  · have H := H.1 c8
    refine am_R.next ((hp 19).trans rfl) rfl ?_
    refine r_cv (bs := []) (st' := []) ((hp 20).trans rfl) (hw.o (i := 109) (by decide) rfl) rfl rfl (Nat.le_of_ble_eq_true rfl) (Nat.le_of_ble_eq_true rfl) (am_R.post H (fun v g4 hq => ?_))
    obtain ⟨rfl, hw, H⟩ := hq
    change am_R _ _ _ _ _ [] _ _
    refine am_R.next ((hp 23).trans rfl) rfl ?_
    refine am_R.next ((hp 24).trans rfl) rfl ?_
    refine am_R.next ((hp 25).trans rfl) rfl ?_
    refine r_cv (bs := [.inl x1, .inl x2]) (st' := []) ((hp 26).trans rfl) (hw.o (i := 109) (by decide) rfl) rfl rfl (Nat.le_of_ble_eq_true rfl) (Nat.le_of_ble_eq_true rfl) (am_R.post H (fun v g5 hq => ?_))
    obtain ⟨rfl, hw, H⟩ := hq
    change am_R _ _ _ _ _ [] _ _
    refine am_R.next ((hp 29).trans rfl) rfl ?_
    refine r_cv (bs := []) (st' := []) ((hp 30).trans rfl) (hw.o (i := 109) (by decide) rfl) rfl rfl (Nat.le_of_ble_eq_true rfl) (Nat.le_of_ble_eq_true rfl) (am_R.post H (fun v g6 hq => ?_))
    obtain ⟨rfl, hw, H⟩ := hq
    change am_R _ _ _ _ _ [] _ _
    refine am_R.next ((hp 33).trans rfl) rfl ?_
    refine r_getR ((hp 34).trans rfl) (hw.o (i := 109) (by decide) rfl) (hw.r wr_109_1) ?_
    refine am_R.next ((hp 37).trans rfl) rfl ?_
    refine am_R.next ((hp 39).trans rfl) rfl ?_
    refine am_R.next ((hp 40).trans rfl) rfl ?_
    obtain ⟨c7, H⟩ := H
    refine r_iald ((hp 41).trans rfl) (hw.a (i := 110) (by decide) rfl c7.1 c7.2) ?_
    exact am_R.ret ((hp 42).trans rfl) rfl H
  · have H := H.2 (Decidable.not_not.mp c8)
    refine am_R.next ((hp 16).trans rfl) rfl ?_
    exact am_R.ret ((hp 18).trans rfl) rfl H
theorem w_M_dream_0 {scr : Nat × (Nat → Int)} {d : Nat} {h : am_H} {Q : Option am_V → am_H → Prop} {x1 x2 : Int} (hs : am_sc scr) (hw : wf h) (H : ∀ h1 : am_H, h1 = am_put h 109 0 0 → (am_R (am_prog scr) d f_M_isSleeper 0 [some (.inr (.inr ((109 : Nat) : Int))), some (.inr (.inl x1)), none] [] h1 (fun v g2 => ∃ r3 : Int, v = some (.inl r3) ∧ wf g2 ∧ ((r3 = 0 → (Q (some (.inl (-11))) g2)) ∧ (¬ (r3 = 0) → (am_R (am_prog scr) d f_M_within 0 [some (.inr (.inl x2)), none, some (.inr (.inl 0)), none, some (.inr (.inl 9)), none] [] g2 (fun v g4 => ∃ r5 : Int, v = some (.inl r5) ∧ wf g4 ∧ ((¬ (r5 = 0) → (am_R (am_prog scr) d f_M_stores 0 [some (.inr (.inr ((109 : Nat) : Int))), none] [] g4 (fun v g6 => v = none ∧ wf g6 ∧ (((0 ≤ (am_w (22 + x1)) ∧ (am_w (22 + x1)) < 3336)) ∧ (∀ h8 : am_H, h8 = am_put g6 110 ((am_w (22 + x1)).toNat) x2 → (am_R (am_prog scr) d f_M_notes 0 [some (.inr (.inr ((109 : Nat) : Int))), none] [] h8 (fun v g9 => v = none ∧ wf g9 ∧ ((0 ≤ (am_w (10 + x1)) ∧ (am_w (10 + x1)) < 18) ∧ (Q (some (.inl (g9.2.2.2 116 ((am_w (10 + x1)).toNat)))) g9))))))))) ∧ (r5 = 0 → (Q (some (.inl (-11))) g4)))))))))) : am_R (am_prog scr) (d + 1) f_M_dream 0 [some (.inr (.inr ((109 : Nat) : Int))), some (.inl x1), some (.inl x2)] [] h Q := by
  have hp : ∀ k, (am_prog scr).1 f_M_dream k = c_M_dream k := fun _ => rfl
  refine am_R.next ((hp 0).trans rfl) rfl ?_
  refine am_R.next ((hp 1).trans rfl) rfl ?_
  obtain ⟨h1, eh1⟩ : ∃ z : am_H, z = am_put h 109 0 0 := ⟨_, rfl⟩
  have H := H h1 eh1
  refine r_putI ((hp 2).trans rfl) (hw.o (i := 109) (by decide) rfl) ?_
  have hw : wf h1 := by rw [eh1]; exact hw.put np_109_0
  change am_R _ _ _ _ _ _ (am_put h 109 0 0) _
  rw [← eh1]
  refine am_R.next ((hp 5).trans rfl) rfl ?_
  refine am_R.next ((hp 6).trans rfl) rfl ?_
  refine am_R.next ((hp 7).trans rfl) rfl ?_
  refine r_cv (bs := [.inr (.inl x1)]) (st' := []) ((hp 8).trans rfl) (hw.o (i := 109) (by decide) rfl) rfl rfl (Nat.le_of_ble_eq_true rfl) (Nat.le_of_ble_eq_true rfl) (am_R.post H (fun v g2 hq => ?_))
  obtain ⟨r3, rfl, hw, H⟩ := hq
  change am_R _ _ _ _ _ [.inl r3] _ _
  refine r_if ((hp 11).trans rfl) (fun c12 => ?_) (fun c12 => ?_)
  · have H := H.1 c12
    refine am_R.next ((hp 26).trans rfl) rfl ?_
    exact am_R.ret ((hp 28).trans rfl) rfl H
  · have H := H.2 c12
    refine am_R.next ((hp 14).trans rfl) rfl ?_
    refine am_R.next ((hp 15).trans rfl) rfl ?_
    refine am_R.next ((hp 16).trans rfl) rfl ?_
    refine am_R.next ((hp 17).trans rfl) rfl ?_
    refine r_cs (as := [.inr (.inl x2), .inr (.inl 0), .inr (.inl 9)]) (st' := []) ((hp 20).trans rfl) rfl rfl (Nat.le_of_ble_eq_true rfl) (Nat.le_of_ble_eq_true rfl) (am_R.post H (fun v g4 hq => ?_))
    obtain ⟨r5, rfl, hw, H⟩ := hq
    change am_R _ _ _ _ _ [.inl r5] _ _
    refine r_if ((hp 23).trans rfl) (fun c11 => ?_) (fun c11 => ?_)
    · have H := H.1 c11
      refine am_R.next ((hp 29).trans rfl) rfl ?_
      refine r_cv (bs := []) (st' := []) ((hp 30).trans rfl) (hw.o (i := 109) (by decide) rfl) rfl rfl (Nat.le_of_ble_eq_true rfl) (Nat.le_of_ble_eq_true rfl) (am_R.post H (fun v g6 hq => ?_))
      obtain ⟨rfl, hw, H⟩ := hq
      change am_R _ _ _ _ _ [] _ _
      refine am_R.next ((hp 33).trans rfl) rfl ?_
      refine r_getR ((hp 34).trans rfl) (hw.o (i := 109) (by decide) rfl) (hw.r wr_109_1) ?_
      refine am_R.next ((hp 37).trans rfl) rfl ?_
      refine am_R.next ((hp 39).trans rfl) rfl ?_
      refine am_R.next ((hp 40).trans rfl) rfl ?_
      refine am_R.next ((hp 41).trans rfl) rfl ?_
      obtain ⟨c7, H⟩ := H
      obtain ⟨h8, eh8⟩ : ∃ z : am_H, z = am_put g6 110 ((am_w (22 + x1)).toNat) x2 := ⟨_, rfl⟩
      have H := H h8 eh8
      refine r_iast ((hp 42).trans rfl) (hw.a (i := 110) (by decide) rfl c7.1 c7.2) ?_
      have hw : wf h8 := by rw [eh8]; exact hw.pa na_110
      change am_R _ _ _ _ _ _ (am_put g6 110 ((am_w (22 + x1)).toNat) x2) _
      rw [← eh8]
      refine am_R.next ((hp 43).trans rfl) rfl ?_
      refine r_cv (bs := []) (st' := []) ((hp 44).trans rfl) (hw.o (i := 109) (by decide) rfl) rfl rfl (Nat.le_of_ble_eq_true rfl) (Nat.le_of_ble_eq_true rfl) (am_R.post H (fun v g9 hq => ?_))
      obtain ⟨rfl, hw, H⟩ := hq
      change am_R _ _ _ _ _ [] _ _
      refine am_R.next ((hp 47).trans rfl) rfl ?_
      refine r_getR ((hp 48).trans rfl) (hw.o (i := 109) (by decide) rfl) (hw.r wr_109_17) ?_
      refine am_R.next ((hp 51).trans rfl) rfl ?_
      refine am_R.next ((hp 53).trans rfl) rfl ?_
      refine am_R.next ((hp 54).trans rfl) rfl ?_
      obtain ⟨c10, H⟩ := H
      refine r_iald ((hp 55).trans rfl) (hw.a (i := 116) (by decide) rfl c10.1 c10.2) ?_
      exact am_R.ret ((hp 56).trans rfl) rfl H
    · have H := H.2 (Decidable.not_not.mp c11)
      refine am_R.next ((hp 26).trans rfl) rfl ?_
      exact am_R.ret ((hp 28).trans rfl) rfl H
theorem w_M_hush_0 {scr : Nat × (Nat → Int)} {d : Nat} {h : am_H} {Q : Option am_V → am_H → Prop} {x1 : Int} (hs : am_sc scr) (hw : wf h) (H : ∀ h1 : am_H, h1 = am_put h 109 0 0 → (am_R (am_prog scr) d f_M_within 0 [some (.inr (.inl x1)), none, some (.inr (.inl 0)), none, some (.inr (.inl 9)), none] [] h1 (fun v g2 => ∃ r3 : Int, v = some (.inl r3) ∧ wf g2 ∧ ((¬ (r3 = 0) → (am_R (am_prog scr) d f_M_stores 0 [some (.inr (.inr ((109 : Nat) : Int))), none] [] g2 (fun v g4 => v = none ∧ wf g4 ∧ (∀ h5 : am_H, h5 = am_put g4 110 28 x1 → (am_R (am_prog scr) d f_M_notes 0 [some (.inr (.inr ((109 : Nat) : Int))), none] [] h5 (fun v g6 => v = none ∧ wf g6 ∧ (Q (some (.inl (g6.2.2.2 116 16))) g6))))))) ∧ (r3 = 0 → (Q (some (.inl (-11))) g2)))))) : am_R (am_prog scr) (d + 1) f_M_hush 0 [some (.inr (.inr ((109 : Nat) : Int))), some (.inl x1)] [] h Q := by
  have hp : ∀ k, (am_prog scr).1 f_M_hush k = c_M_hush k := fun _ => rfl
  refine am_R.next ((hp 0).trans rfl) rfl ?_
  refine am_R.next ((hp 1).trans rfl) rfl ?_
  obtain ⟨h1, eh1⟩ : ∃ z : am_H, z = am_put h 109 0 0 := ⟨_, rfl⟩
  have H := H h1 eh1
  refine r_putI ((hp 2).trans rfl) (hw.o (i := 109) (by decide) rfl) ?_
  have hw : wf h1 := by rw [eh1]; exact hw.put np_109_0
  change am_R _ _ _ _ _ _ (am_put h 109 0 0) _
  rw [← eh1]
  refine am_R.next ((hp 5).trans rfl) rfl ?_
  refine am_R.next ((hp 6).trans rfl) rfl ?_
  refine am_R.next ((hp 7).trans rfl) rfl ?_
  refine am_R.next ((hp 8).trans rfl) rfl ?_
  refine r_cs (as := [.inr (.inl x1), .inr (.inl 0), .inr (.inl 9)]) (st' := []) ((hp 11).trans rfl) rfl rfl (Nat.le_of_ble_eq_true rfl) (Nat.le_of_ble_eq_true rfl) (am_R.post H (fun v g2 hq => ?_))
  obtain ⟨r3, rfl, hw, H⟩ := hq
  change am_R _ _ _ _ _ [.inl r3] _ _
  refine r_if ((hp 14).trans rfl) (fun c7 => ?_) (fun c7 => ?_)
  · have H := H.1 c7
    refine am_R.next ((hp 20).trans rfl) rfl ?_
    refine r_cv (bs := []) (st' := []) ((hp 21).trans rfl) (hw.o (i := 109) (by decide) rfl) rfl rfl (Nat.le_of_ble_eq_true rfl) (Nat.le_of_ble_eq_true rfl) (am_R.post H (fun v g4 hq => ?_))
    obtain ⟨rfl, hw, H⟩ := hq
    change am_R _ _ _ _ _ [] _ _
    refine am_R.next ((hp 24).trans rfl) rfl ?_
    refine r_getR ((hp 25).trans rfl) (hw.o (i := 109) (by decide) rfl) (hw.r wr_109_1) ?_
    refine am_R.next ((hp 28).trans rfl) rfl ?_
    refine am_R.next ((hp 30).trans rfl) rfl ?_
    obtain ⟨h5, eh5⟩ : ∃ z : am_H, z = am_put g4 110 28 x1 := ⟨_, rfl⟩
    have H := H h5 eh5
    refine r_iast ((hp 31).trans rfl) (hw.a (i := 110) (by decide) rfl (by decide) (by decide)) ?_
    have hw : wf h5 := by rw [eh5]; exact hw.pa na_110
    change am_R _ _ _ _ _ _ (am_put g4 110 28 x1) _
    rw [← eh5]
    refine am_R.next ((hp 32).trans rfl) rfl ?_
    refine r_cv (bs := []) (st' := []) ((hp 33).trans rfl) (hw.o (i := 109) (by decide) rfl) rfl rfl (Nat.le_of_ble_eq_true rfl) (Nat.le_of_ble_eq_true rfl) (am_R.post H (fun v g6 hq => ?_))
    obtain ⟨rfl, hw, H⟩ := hq
    change am_R _ _ _ _ _ [] _ _
    refine am_R.next ((hp 36).trans rfl) rfl ?_
    refine r_getR ((hp 37).trans rfl) (hw.o (i := 109) (by decide) rfl) (hw.r wr_109_17) ?_
    refine am_R.next ((hp 40).trans rfl) rfl ?_
    refine r_iald ((hp 42).trans rfl) (hw.a (i := 116) (by decide) rfl (by decide) (by decide)) ?_
    exact am_R.ret ((hp 43).trans rfl) rfl H
  · have H := H.2 (Decidable.not_not.mp c7)
    refine am_R.next ((hp 17).trans rfl) rfl ?_
    exact am_R.ret ((hp 19).trans rfl) rfl H
theorem w_M_undo_0 {scr : Nat × (Nat → Int)} {d : Nat} {h : am_H} {Q : Option am_V → am_H → Prop} {x1 : Int} (hs : am_sc scr) (hw : wf h) (H : ∀ h1 : am_H, h1 = am_put h 109 0 0 → (am_R (am_prog scr) d f_M_within 0 [some (.inr (.inl x1)), none, some (.inr (.inl 1)), none, some (.inr (.inl 10)), none] [] h1 (fun v g2 => ∃ r3 : Int, v = some (.inl r3) ∧ wf g2 ∧ ((r3 = 0 → (Q (some (.inl (-3))) g2)) ∧ (¬ (r3 = 0) → ((x1 ≤ (g2.2.2.2 110 30) → (∀ h4 : am_H, h4 = am_put g2 110 30 (am_w ((g2.2.2.2 110 30) - x1)) → (am_R (am_prog scr) (d + 1) f_M_undo 44 [some (.inr (.inr ((109 : Nat) : Int))), some (.inl x1), some (.inl 0)] [] h4 Q))) ∧ (¬ (x1 ≤ (g2.2.2.2 110 30)) → (Q (some (.inl (-3))) g2)))))))) : am_R (am_prog scr) (d + 1) f_M_undo 0 [some (.inr (.inr ((109 : Nat) : Int))), some (.inl x1), none] [] h Q := by
  have hp : ∀ k, (am_prog scr).1 f_M_undo k = c_M_undo k := fun _ => rfl
  refine am_R.next ((hp 0).trans rfl) rfl ?_
  refine am_R.next ((hp 1).trans rfl) rfl ?_
  obtain ⟨h1, eh1⟩ : ∃ z : am_H, z = am_put h 109 0 0 := ⟨_, rfl⟩
  have H := H h1 eh1
  refine r_putI ((hp 2).trans rfl) (hw.o (i := 109) (by decide) rfl) ?_
  have hw : wf h1 := by rw [eh1]; exact hw.put np_109_0
  change am_R _ _ _ _ _ _ (am_put h 109 0 0) _
  rw [← eh1]
  refine am_R.next ((hp 5).trans rfl) rfl ?_
  refine am_R.next ((hp 6).trans rfl) rfl ?_
  refine am_R.next ((hp 7).trans rfl) rfl ?_
  refine am_R.next ((hp 8).trans rfl) rfl ?_
  refine r_cs (as := [.inr (.inl x1), .inr (.inl 1), .inr (.inl 10)]) (st' := []) ((hp 11).trans rfl) rfl rfl (Nat.le_of_ble_eq_true rfl) (Nat.le_of_ble_eq_true rfl) (am_R.post H (fun v g2 hq => ?_))
  obtain ⟨r3, rfl, hw, H⟩ := hq
  change am_R _ _ _ _ _ [.inl r3] _ _
  refine r_if ((hp 14).trans rfl) (fun c6 => ?_) (fun c6 => ?_)
  · have H := H.1 c6
    refine am_R.next ((hp 28).trans rfl) rfl ?_
    exact am_R.ret ((hp 30).trans rfl) rfl H
  · have H := H.2 c6
    refine am_R.next ((hp 17).trans rfl) rfl ?_
    refine am_R.next ((hp 18).trans rfl) rfl ?_
    refine r_getR ((hp 19).trans rfl) (hw.o (i := 109) (by decide) rfl) (hw.r wr_109_1) ?_
    refine am_R.next ((hp 22).trans rfl) rfl ?_
    refine r_iald ((hp 24).trans rfl) (hw.a (i := 110) (by decide) rfl (by decide) (by decide)) ?_
    refine r_ic ((hp 25).trans rfl) (fun c5 => ?_) (fun c5 => ?_)
    · have H := H.1 c5
      refine am_R.next ((hp 31).trans rfl) rfl ?_
      refine r_getR ((hp 32).trans rfl) (hw.o (i := 109) (by decide) rfl) (hw.r wr_109_1) ?_
      refine am_R.next ((hp 35).trans rfl) rfl ?_
      refine am_R.next ((hp 37).trans rfl) rfl ?_
      refine r_iald ((hp 38).trans rfl) (hw.a (i := 110) (by decide) rfl (by decide) (by decide)) ?_
      refine am_R.next ((hp 39).trans rfl) rfl ?_
      refine am_R.next ((hp 40).trans rfl) rfl ?_
      obtain ⟨h4, eh4⟩ : ∃ z : am_H, z = am_put g2 110 30 (am_w ((g2.2.2.2 110 30) - x1)) := ⟨_, rfl⟩
      have H := H h4 eh4
      refine r_iast ((hp 41).trans rfl) (hw.a (i := 110) (by decide) rfl (by decide) (by decide)) ?_
      have hw : wf h4 := by rw [eh4]; exact hw.pa na_110
      change am_R _ _ _ _ _ _ (am_put g2 110 30 (am_w ((g2.2.2.2 110 30) - x1))) _
      rw [← eh4]
      refine am_R.next ((hp 42).trans rfl) rfl ?_
      refine am_R.next (lv' := [some (.inr (.inr ((109 : Nat) : Int))), some (.inl x1), some (.inl 0)]) ((hp 43).trans rfl) rfl ?_
      exact H
    · have H := H.2 c5
      refine am_R.next ((hp 28).trans rfl) rfl ?_
      exact am_R.ret ((hp 30).trans rfl) rfl H
theorem w_M_undo_44 {scr : Nat × (Nat → Int)} {d : Nat} {h : am_H} {Q : Option am_V → am_H → Prop} {x1 x2 : Int} (hs : am_sc scr) (hw : wf h) (H : (¬ (x2 < 18) → (Q (some (.inl (h.2.2.2 110 30))) h)) ∧ (x2 < 18 → ((0 ≤ (am_w ((am_w (31 + (am_w (18 * (h.2.2.2 110 30))))) + x2)) ∧ (am_w ((am_w (31 + (am_w (18 * (h.2.2.2 110 30))))) + x2)) < 3336) ∧ (((0 ≤ (am_w (12 + x2)) ∧ (am_w (12 + x2)) < 3336)) ∧ (∀ h3 : am_H, h3 = am_put h 110 ((am_w (12 + x2)).toNat) (h.2.2.2 110 ((am_w ((am_w (31 + (am_w (18 * (h.2.2.2 110 30))))) + x2)).toNat)) → (∀ y4 : Int, y4 = am_w (x2 + 1) → (am_R (am_prog scr) (d + 1) f_M_undo 44 [some (.inr (.inr ((109 : Nat) : Int))), some (.inl x1), some (.inl y4)] [] h3 Q))))))) : am_R (am_prog scr) (d + 1) f_M_undo 44 [some (.inr (.inr ((109 : Nat) : Int))), some (.inl x1), some (.inl x2)] [] h Q := by
  have hp : ∀ k, (am_prog scr).1 f_M_undo k = c_M_undo k := fun _ => rfl
  refine am_R.next ((hp 44).trans rfl) rfl ?_
  refine am_R.next ((hp 45).trans rfl) rfl ?_
  refine r_ic ((hp 47).trans rfl) (fun c5 => ?_) (fun c5 => ?_)
  · have H := H.1 c5
    refine am_R.next ((hp 85).trans rfl) rfl ?_
    refine r_getR ((hp 86).trans rfl) (hw.o (i := 109) (by decide) rfl) (hw.r wr_109_1) ?_
    refine am_R.next ((hp 89).trans rfl) rfl ?_
    refine r_iald ((hp 91).trans rfl) (hw.a (i := 110) (by decide) rfl (by decide) (by decide)) ?_
    exact am_R.ret ((hp 92).trans rfl) rfl H
  · have H := H.2 (Decidable.not_not.mp c5)
    refine am_R.next ((hp 50).trans rfl) rfl ?_
    refine r_getR ((hp 51).trans rfl) (hw.o (i := 109) (by decide) rfl) (hw.r wr_109_1) ?_
    refine am_R.next ((hp 54).trans rfl) rfl ?_
    refine am_R.next ((hp 56).trans rfl) rfl ?_
    refine am_R.next ((hp 57).trans rfl) rfl ?_
    refine am_R.next ((hp 58).trans rfl) rfl ?_
    refine r_getR ((hp 59).trans rfl) (hw.o (i := 109) (by decide) rfl) (hw.r wr_109_1) ?_
    refine am_R.next ((hp 62).trans rfl) rfl ?_
    refine am_R.next ((hp 64).trans rfl) rfl ?_
    refine am_R.next ((hp 66).trans rfl) rfl ?_
    refine r_getR ((hp 67).trans rfl) (hw.o (i := 109) (by decide) rfl) (hw.r wr_109_1) ?_
    refine am_R.next ((hp 70).trans rfl) rfl ?_
    refine r_iald ((hp 72).trans rfl) (hw.a (i := 110) (by decide) rfl (by decide) (by decide)) ?_
    refine am_R.next ((hp 73).trans rfl) rfl ?_
    refine am_R.next ((hp 74).trans rfl) rfl ?_
    refine am_R.next ((hp 75).trans rfl) rfl ?_
    refine am_R.next ((hp 76).trans rfl) rfl ?_
    obtain ⟨c1, H⟩ := H
    refine r_iald ((hp 77).trans rfl) (hw.a (i := 110) (by decide) rfl c1.1 c1.2) ?_
    obtain ⟨c2, H⟩ := H
    obtain ⟨h3, eh3⟩ : ∃ z : am_H, z = am_put h 110 ((am_w (12 + x2)).toNat) (h.2.2.2 110 ((am_w ((am_w (31 + (am_w (18 * (h.2.2.2 110 30))))) + x2)).toNat)) := ⟨_, rfl⟩
    have H := H h3 eh3
    refine r_iast ((hp 78).trans rfl) (hw.a (i := 110) (by decide) rfl c2.1 c2.2) ?_
    have hw : wf h3 := by rw [eh3]; exact hw.pa na_110
    change am_R _ _ _ _ _ _ (am_put h 110 ((am_w (12 + x2)).toNat) (h.2.2.2 110 ((am_w ((am_w (31 + (am_w (18 * (h.2.2.2 110 30))))) + x2)).toNat))) _
    rw [← eh3]
    obtain ⟨y4, ey4⟩ : ∃ z : Int, z = am_w (x2 + 1) := ⟨_, rfl⟩
    have H := H y4 ey4
    refine am_R.next (lv' := [some (.inr (.inr ((109 : Nat) : Int))), some (.inl x1), some (.inl y4)]) (st' := []) (h' := h3) (pc' := 82) ((hp 79).trans rfl) (by rw [ey4]; rfl) ?_
    refine am_R.next ((hp 82).trans rfl) rfl ?_
    exact H
theorem w_M_whyNot_0 {scr : Nat × (Nat → Int)} {d : Nat} {h : am_H} {Q : Option am_V → am_H → Prop} {x1 : Int} (hs : am_sc scr) (hw : wf h) (H : am_R (am_prog scr) d f_M_within 0 [some (.inr (.inl x1)), none, some (.inr (.inl 0)), none, some (.inr (.inl 9)), none] [] h (fun v g1 => ∃ r2 : Int, v = some (.inl r2) ∧ wf g1 ∧ ((r2 = 0 → (am_R (am_prog scr) d f_M_within 0 [some (.inr (.inl x1)), none, some (.inr (.inl 10)), none, some (.inr (.inl 19)), none] [] g1 (fun v g3 => ∃ r4 : Int, v = some (.inl r4) ∧ wf g3 ∧ ((r4 = 0 → (am_R (am_prog scr) d f_M_within 0 [some (.inr (.inl x1)), none, some (.inr (.inl 100)), none, some (.inr (.inl 199)), none] [] g3 (fun v g5 => ∃ r6 : Int, v = some (.inl r6) ∧ wf g5 ∧ ((r6 = 0 → (am_R (am_prog scr) d f_M_within 0 [some (.inr (.inl x1)), none, some (.inr (.inl 200)), none, some (.inr (.inl 299)), none] [] g5 (fun v g7 => ∃ r8 : Int, v = some (.inl r8) ∧ wf g7 ∧ ((r8 = 0 → (Q (some (.inl 1)) g7)) ∧ (¬ (r8 = 0) → (am_R (am_prog scr) d f_M_isSleeper 0 [some (.inr (.inr ((109 : Nat) : Int))), some (.inr (.inl (am_W ((am_W (x1 - 200)).tdiv 10)))), none] [] g7 (fun v g9 => ∃ r10 : Int, v = some (.inl r10) ∧ wf g9 ∧ ((r10 = 0 → (Q (some (.inl 1)) g9)) ∧ (¬ (r10 = 0) → (Q (some (.inl 0)) g9)))))))))) ∧ (¬ (r6 = 0) → (am_R (am_prog scr) d f_M_areTwo 0 [some (.inr (.inr ((109 : Nat) : Int))), some (.inr (.inl (am_W ((am_W (x1 - 100)).tdiv 10)))), none, some (.inr (.inl (x1.tmod 10))), none] [] g5 (fun v g13 => ∃ r14 : Int, v = some (.inl r14) ∧ wf g13 ∧ ((r14 = 0 → (Q (some (.inl 1)) g13)) ∧ (¬ (r14 = 0) → (Q (some (.inl 0)) g13)))))))))) ∧ (¬ (r4 = 0) → (Q (some (.inl 0)) g3)))))) ∧ (¬ (r2 = 0) → (am_R (am_prog scr) d f_M_standNow 0 [some (.inr (.inr ((109 : Nat) : Int)))] [] g1 (fun v g18 => ∃ r19 : Int, v = some (.inl r19) ∧ wf g18 ∧ (am_R (am_prog scr) d f_M_whyBeat 0 [some (.inr (.inr ((109 : Nat) : Int))), some (.inl r19), some (.inr (.inl x1)), none] [] g18 (fun v g20 => ∃ r21 : Int, v = some (.inl r21) ∧ wf g20 ∧ (Q (some (.inl r21)) g20))))))))) : am_R (am_prog scr) (d + 1) f_M_whyNot 0 [some (.inr (.inr ((109 : Nat) : Int))), some (.inr (.inl x1)), none] [] h Q := by
  have hp : ∀ k, (am_prog scr).1 f_M_whyNot k = c_M_whyNot k := fun _ => rfl
  refine am_R.next ((hp 0).trans rfl) rfl ?_
  refine am_R.next ((hp 1).trans rfl) rfl ?_
  refine am_R.next ((hp 2).trans rfl) rfl ?_
  refine r_cs (as := [.inr (.inl x1), .inr (.inl 0), .inr (.inl 9)]) (st' := []) ((hp 5).trans rfl) rfl rfl (Nat.le_of_ble_eq_true rfl) (Nat.le_of_ble_eq_true rfl) (am_R.post H (fun v g1 hq => ?_))
  obtain ⟨r2, rfl, hw, H⟩ := hq
  change am_R _ _ _ _ _ [.inl r2] _ _
  refine r_if ((hp 8).trans rfl) (fun c22 => ?_) (fun c22 => ?_)
  · have H := H.1 c22
    refine am_R.next ((hp 21).trans rfl) rfl ?_
    refine am_R.next ((hp 22).trans rfl) rfl ?_
    refine am_R.next ((hp 25).trans rfl) rfl ?_
    refine r_cs (as := [.inr (.inl x1), .inr (.inl 10), .inr (.inl 19)]) (st' := []) ((hp 28).trans rfl) rfl rfl (Nat.le_of_ble_eq_true rfl) (Nat.le_of_ble_eq_true rfl) (am_R.post H (fun v g3 hq => ?_))
    obtain ⟨r4, rfl, hw, H⟩ := hq
    change am_R _ _ _ _ _ [.inl r4] _ _
    refine r_if ((hp 31).trans rfl) (fun c17 => ?_) (fun c17 => ?_)
    · have H := H.1 c17
      refine am_R.next ((hp 36).trans rfl) rfl ?_
      refine am_R.next ((hp 37).trans rfl) rfl ?_
      refine am_R.next ((hp 40).trans rfl) rfl ?_
      refine r_cs (as := [.inr (.inl x1), .inr (.inl 100), .inr (.inl 199)]) (st' := []) ((hp 43).trans rfl) rfl rfl (Nat.le_of_ble_eq_true rfl) (Nat.le_of_ble_eq_true rfl) (am_R.post H (fun v g5 hq => ?_))
      obtain ⟨r6, rfl, hw, H⟩ := hq
      change am_R _ _ _ _ _ [.inl r6] _ _
      refine r_if ((hp 46).trans rfl) (fun c16 => ?_) (fun c16 => ?_)
      · have H := H.1 c16
        refine am_R.next ((hp 76).trans rfl) rfl ?_
        refine am_R.next ((hp 77).trans rfl) rfl ?_
        refine am_R.next ((hp 80).trans rfl) rfl ?_
        refine r_cs (as := [.inr (.inl x1), .inr (.inl 200), .inr (.inl 299)]) (st' := []) ((hp 83).trans rfl) rfl rfl (Nat.le_of_ble_eq_true rfl) (Nat.le_of_ble_eq_true rfl) (am_R.post H (fun v g7 hq => ?_))
        obtain ⟨r8, rfl, hw, H⟩ := hq
        change am_R _ _ _ _ _ [.inl r8] _ _
        refine r_if ((hp 86).trans rfl) (fun c12 => ?_) (fun c12 => ?_)
        · have H := H.1 c12
          refine am_R.next ((hp 109).trans rfl) rfl ?_
          exact am_R.ret ((hp 110).trans rfl) rfl H
        · have H := H.2 c12
          refine am_R.next ((hp 89).trans rfl) rfl ?_
          refine am_R.next ((hp 90).trans rfl) rfl ?_
          refine am_R.next ((hp 91).trans rfl) rfl ?_
          refine am_R.next ((hp 94).trans rfl) rfl ?_
          refine am_R.next ((hp 95).trans rfl) rfl ?_
          refine r_l2z ((hp 98).trans rfl) (by decide) ?_
          refine r_cv (bs := [.inr (.inl (am_W ((am_W (x1 - 200)).tdiv 10)))]) (st' := []) ((hp 99).trans rfl) (hw.o (i := 109) (by decide) rfl) rfl rfl (Nat.le_of_ble_eq_true rfl) (Nat.le_of_ble_eq_true rfl) (am_R.post H (fun v g9 hq => ?_))
          obtain ⟨r10, rfl, hw, H⟩ := hq
          change am_R _ _ _ _ _ [.inl r10] _ _
          refine r_if ((hp 102).trans rfl) (fun c11 => ?_) (fun c11 => ?_)
          · have H := H.1 c11
            refine am_R.next ((hp 109).trans rfl) rfl ?_
            exact am_R.ret ((hp 110).trans rfl) rfl H
          · have H := H.2 c11
            refine am_R.next ((hp 105).trans rfl) rfl ?_
            refine am_R.next ((hp 106).trans rfl) rfl ?_
            exact am_R.ret ((hp 110).trans rfl) rfl H
      · have H := H.2 c16
        refine am_R.next ((hp 49).trans rfl) rfl ?_
        refine am_R.next ((hp 50).trans rfl) rfl ?_
        refine am_R.next ((hp 51).trans rfl) rfl ?_
        refine am_R.next ((hp 54).trans rfl) rfl ?_
        refine am_R.next ((hp 55).trans rfl) rfl ?_
        refine r_l2z ((hp 58).trans rfl) (by decide) ?_
        refine am_R.next ((hp 59).trans rfl) rfl ?_
        refine am_R.next ((hp 60).trans rfl) rfl ?_
        refine r_l2z ((hp 63).trans rfl) (by decide) ?_
        refine r_cv (bs := [.inr (.inl (am_W ((am_W (x1 - 100)).tdiv 10))), .inr (.inl (x1.tmod 10))]) (st' := []) ((hp 64).trans rfl) (hw.o (i := 109) (by decide) rfl) rfl rfl (Nat.le_of_ble_eq_true rfl) (Nat.le_of_ble_eq_true rfl) (am_R.post H (fun v g13 hq => ?_))
        obtain ⟨r14, rfl, hw, H⟩ := hq
        change am_R _ _ _ _ _ [.inl r14] _ _
        refine r_if ((hp 67).trans rfl) (fun c15 => ?_) (fun c15 => ?_)
        · have H := H.1 c15
          refine am_R.next ((hp 74).trans rfl) rfl ?_
          exact am_R.ret ((hp 75).trans rfl) rfl H
        · have H := H.2 c15
          refine am_R.next ((hp 70).trans rfl) rfl ?_
          refine am_R.next ((hp 71).trans rfl) rfl ?_
          exact am_R.ret ((hp 75).trans rfl) rfl H
    · have H := H.2 c17
      refine am_R.next ((hp 34).trans rfl) rfl ?_
      exact am_R.ret ((hp 35).trans rfl) rfl H
  · have H := H.2 c22
    refine am_R.next ((hp 11).trans rfl) rfl ?_
    refine am_R.next ((hp 12).trans rfl) rfl ?_
    refine r_cv (bs := []) (st' := [.inr (.inr ((109 : Nat) : Int))]) ((hp 13).trans rfl) (hw.o (i := 109) (by decide) rfl) rfl rfl (Nat.le_of_ble_eq_true rfl) (Nat.le_of_ble_eq_true rfl) (am_R.post H (fun v g18 hq => ?_))
    obtain ⟨r19, rfl, hw, H⟩ := hq
    change am_R _ _ _ _ _ [.inl r19, .inr (.inr ((109 : Nat) : Int))] _ _
    refine am_R.next ((hp 16).trans rfl) rfl ?_
    refine r_cv (bs := [.inl r19, .inr (.inl x1)]) (st' := []) ((hp 17).trans rfl) (hw.o (i := 109) (by decide) rfl) rfl rfl (Nat.le_of_ble_eq_true rfl) (Nat.le_of_ble_eq_true rfl) (am_R.post H (fun v g20 hq => ?_))
    obtain ⟨r21, rfl, hw, H⟩ := hq
    change am_R _ _ _ _ _ [.inl r21] _ _
    exact am_R.ret ((hp 20).trans rfl) rfl H
theorem w_M_does_0 {scr : Nat × (Nat → Int)} {d : Nat} {h : am_H} {Q : Option am_V → am_H → Prop} {x1 : Int} (hs : am_sc scr) (hw : wf h) (H : (¬ (x1 < 10) → ((¬ (x1 < 20) → ((¬ (x1 < 200) → (((0 ≤ (am_w (22 + (am_w ((am_w (x1 - 200)).tdiv 10)))) ∧ (am_w (22 + (am_w ((am_w (x1 - 200)).tdiv 10)))) < 3336)) ∧ (∀ h2 : am_H, h2 = am_put h 110 ((am_w (22 + (am_w ((am_w (x1 - 200)).tdiv 10)))).toNat) (x1.tmod 10) → (Q none h2)))) ∧ (x1 < 200 → (am_R (am_prog scr) d f_M_changes 0 [some (.inr (.inr ((109 : Nat) : Int))), some (.inl (am_w ((am_w (x1 - 100)).tdiv 10))), some (.inl (x1.tmod 10)), none] [] h (fun v g3 => v = none ∧ wf g3 ∧ (Q none g3)))))) ∧ (x1 < 20 → (∀ h5 : am_H, h5 = am_put h 110 28 (am_w (x1 - 10)) → (Q none h5))))) ∧ (x1 < 10 → (am_R (am_prog scr) d f_M_goesBeat 0 [some (.inr (.inr ((109 : Nat) : Int))), some (.inl x1)] [] h (fun v g7 => v = none ∧ wf g7 ∧ (Q none g7))))) : am_R (am_prog scr) (d + 1) f_M_does 0 [some (.inr (.inr ((109 : Nat) : Int))), some (.inl x1)] [] h Q := by
  have hp : ∀ k, (am_prog scr).1 f_M_does k = c_M_does k := fun _ => rfl
  refine am_R.next ((hp 0).trans rfl) rfl ?_
  refine am_R.next ((hp 1).trans rfl) rfl ?_
  refine r_ic ((hp 3).trans rfl) (fun c8 => ?_) (fun c8 => ?_)
  · have H := H.1 c8
    refine am_R.next ((hp 14).trans rfl) rfl ?_
    refine am_R.next ((hp 15).trans rfl) rfl ?_
    refine r_ic ((hp 17).trans rfl) (fun c6 => ?_) (fun c6 => ?_)
    · have H := H.1 c6
      refine am_R.next ((hp 34).trans rfl) rfl ?_
      refine am_R.next ((hp 35).trans rfl) rfl ?_
      refine r_ic ((hp 38).trans rfl) (fun c4 => ?_) (fun c4 => ?_)
      · have H := H.1 c4
        refine am_R.next ((hp 59).trans rfl) rfl ?_
        refine r_getR ((hp 60).trans rfl) (hw.o (i := 109) (by decide) rfl) (hw.r wr_109_1) ?_
        refine am_R.next ((hp 63).trans rfl) rfl ?_
        refine am_R.next ((hp 65).trans rfl) rfl ?_
        refine am_R.next ((hp 66).trans rfl) rfl ?_
        refine am_R.next ((hp 69).trans rfl) rfl ?_
        refine am_R.next ((hp 70).trans rfl) rfl ?_
        refine r_i2z ((hp 72).trans rfl) (by decide) ?_
        refine am_R.next ((hp 73).trans rfl) rfl ?_
        refine am_R.next ((hp 74).trans rfl) rfl ?_
        refine am_R.next ((hp 75).trans rfl) rfl ?_
        refine r_i2z ((hp 77).trans rfl) (by decide) ?_
        obtain ⟨c1, H⟩ := H
        obtain ⟨h2, eh2⟩ : ∃ z : am_H, z = am_put h 110 ((am_w (22 + (am_w ((am_w (x1 - 200)).tdiv 10)))).toNat) (x1.tmod 10) := ⟨_, rfl⟩
        have H := H h2 eh2
        refine r_iast ((hp 78).trans rfl) (hw.a (i := 110) (by decide) rfl c1.1 c1.2) ?_
        have hw : wf h2 := by rw [eh2]; exact hw.pa na_110
        change am_R _ _ _ _ _ _ (am_put h 110 ((am_w (22 + (am_w ((am_w (x1 - 200)).tdiv 10)))).toNat) (x1.tmod 10)) _
        rw [← eh2]
        exact am_R.ret ((hp 79).trans rfl) rfl H
      · have H := H.2 (Decidable.not_not.mp c4)
        refine am_R.next ((hp 41).trans rfl) rfl ?_
        refine am_R.next ((hp 42).trans rfl) rfl ?_
        refine am_R.next ((hp 43).trans rfl) rfl ?_
        refine am_R.next ((hp 45).trans rfl) rfl ?_
        refine am_R.next ((hp 46).trans rfl) rfl ?_
        refine r_i2z ((hp 48).trans rfl) (by decide) ?_
        refine am_R.next ((hp 49).trans rfl) rfl ?_
        refine am_R.next ((hp 50).trans rfl) rfl ?_
        refine r_i2z ((hp 52).trans rfl) (by decide) ?_
        refine r_cv (bs := [.inl (am_w ((am_w (x1 - 100)).tdiv 10)), .inl (x1.tmod 10)]) (st' := []) ((hp 53).trans rfl) (hw.o (i := 109) (by decide) rfl) rfl rfl (Nat.le_of_ble_eq_true rfl) (Nat.le_of_ble_eq_true rfl) (am_R.post H (fun v g3 hq => ?_))
        obtain ⟨rfl, hw, H⟩ := hq
        change am_R _ _ _ _ _ [] _ _
        refine am_R.next ((hp 56).trans rfl) rfl ?_
        exact am_R.ret ((hp 79).trans rfl) rfl H
    · have H := H.2 (Decidable.not_not.mp c6)
      refine am_R.next ((hp 20).trans rfl) rfl ?_
      refine r_getR ((hp 21).trans rfl) (hw.o (i := 109) (by decide) rfl) (hw.r wr_109_1) ?_
      refine am_R.next ((hp 24).trans rfl) rfl ?_
      refine am_R.next ((hp 26).trans rfl) rfl ?_
      refine am_R.next ((hp 27).trans rfl) rfl ?_
      refine am_R.next ((hp 29).trans rfl) rfl ?_
      obtain ⟨h5, eh5⟩ : ∃ z : am_H, z = am_put h 110 28 (am_w (x1 - 10)) := ⟨_, rfl⟩
      have H := H h5 eh5
      refine r_iast ((hp 30).trans rfl) (hw.a (i := 110) (by decide) rfl (by decide) (by decide)) ?_
      have hw : wf h5 := by rw [eh5]; exact hw.pa na_110
      change am_R _ _ _ _ _ _ (am_put h 110 28 (am_w (x1 - 10))) _
      rw [← eh5]
      refine am_R.next ((hp 31).trans rfl) rfl ?_
      exact am_R.ret ((hp 79).trans rfl) rfl H
  · have H := H.2 (Decidable.not_not.mp c8)
    refine am_R.next ((hp 6).trans rfl) rfl ?_
    refine am_R.next ((hp 7).trans rfl) rfl ?_
    refine r_cv (bs := [.inl x1]) (st' := []) ((hp 8).trans rfl) (hw.o (i := 109) (by decide) rfl) rfl rfl (Nat.le_of_ble_eq_true rfl) (Nat.le_of_ble_eq_true rfl) (am_R.post H (fun v g7 hq => ?_))
    obtain ⟨rfl, hw, H⟩ := hq
    change am_R _ _ _ _ _ [] _ _
    refine am_R.next ((hp 11).trans rfl) rfl ?_
    exact am_R.ret ((hp 79).trans rfl) rfl H
theorem w_M_tells_0 {scr : Nat × (Nat → Int)} {d : Nat} {h : am_H} {Q : Option am_V → am_H → Prop} {x1 : Int} (hs : am_sc scr) (hw : wf h) (H : ∀ h1 : am_H, h1 = am_put h 109 18 0 → (am_R (am_prog scr) (d + 1) f_M_tells 7 [some (.inr (.inr ((109 : Nat) : Int))), some (.inl x1), some (.inl 0)] [] h1 Q)) : am_R (am_prog scr) (d + 1) f_M_tells 0 [some (.inr (.inr ((109 : Nat) : Int))), some (.inl x1), none] [] h Q := by
  have hp : ∀ k, (am_prog scr).1 f_M_tells k = c_M_tells k := fun _ => rfl
  refine am_R.next ((hp 0).trans rfl) rfl ?_
  refine am_R.next ((hp 1).trans rfl) rfl ?_
  obtain ⟨h1, eh1⟩ : ∃ z : am_H, z = am_put h 109 18 0 := ⟨_, rfl⟩
  have H := H h1 eh1
  refine r_putI ((hp 2).trans rfl) (hw.o (i := 109) (by decide) rfl) ?_
  have hw : wf h1 := by rw [eh1]; exact hw.put np_109_18
  change am_R _ _ _ _ _ _ (am_put h 109 18 0) _
  rw [← eh1]
  refine am_R.next ((hp 5).trans rfl) rfl ?_
  refine am_R.next (lv' := [some (.inr (.inr ((109 : Nat) : Int))), some (.inl x1), some (.inl 0)]) ((hp 6).trans rfl) rfl ?_
  exact H
theorem w_M_tells_7 {scr : Nat × (Nat → Int)} {d : Nat} {h : am_H} {Q : Option am_V → am_H → Prop} {x1 x2 : Int} (hs : am_sc scr) (hw : wf h) (H : (0 ≤ x1 ∧ x1 < 4) ∧ ((¬ (x2 < (h.2.2.2 131 x1.toNat)) → ((0 ≤ x1 ∧ x1 < 4) ∧ (Q (some (.inl (h.2.2.2 131 x1.toNat))) h))) ∧ (x2 < (h.2.2.2 131 x1.toNat) → ((0 ≤ (am_w ((am_w (40 * x1)) + x2)) ∧ (am_w ((am_w (40 * x1)) + x2)) < 160) ∧ (am_R (am_prog scr) d f_M_whyNot 0 [some (.inr (.inr ((109 : Nat) : Int))), some (.inr (.inl (h.2.2.2 132 ((am_w ((am_w (40 * x1)) + x2)).toNat)))), none] [] h (fun v g4 => ∃ r5 : Int, v = some (.inl r5) ∧ wf g4 ∧ (∀ h6 : am_H, h6 = am_put g4 109 18 r5 → (((h6.2.2.2 109 18) = 0 → ((0 ≤ (am_w ((am_w (40 * x1)) + x2)) ∧ (am_w ((am_w (40 * x1)) + x2)) < 160) ∧ (am_R (am_prog scr) d f_M_does 0 [some (.inr (.inr ((109 : Nat) : Int))), some (.inl (am_w (h6.2.2.2 132 ((am_w ((am_w (40 * x1)) + x2)).toNat))))] [] h6 (fun v g8 => v = none ∧ wf g8 ∧ (∀ y9 : Int, y9 = am_w (x2 + 1) → (am_R (am_prog scr) (d + 1) f_M_tells 7 [some (.inr (.inr ((109 : Nat) : Int))), some (.inl x1), some (.inl y9)] [] g8 Q)))))) ∧ (¬ ((h6.2.2.2 109 18) = 0) → (Q (some (.inl x2)) h6)))))))))) : am_R (am_prog scr) (d + 1) f_M_tells 7 [some (.inr (.inr ((109 : Nat) : Int))), some (.inl x1), some (.inl x2)] [] h Q := by
  have hp : ∀ k, (am_prog scr).1 f_M_tells k = c_M_tells k := fun _ => rfl
  refine am_R.next ((hp 7).trans rfl) rfl ?_
  refine am_R.next ((hp 8).trans rfl) rfl ?_
  refine r_getR ((hp 9).trans rfl) (hw.o (i := 109) (by decide) rfl) (hw.r wr_109_38) ?_
  refine am_R.next ((hp 12).trans rfl) rfl ?_
  obtain ⟨c1, H⟩ := H
  refine r_iald ((hp 13).trans rfl) (hw.a (i := 131) (by decide) rfl c1.1 c1.2) ?_
  refine r_ic ((hp 14).trans rfl) (fun c11 => ?_) (fun c11 => ?_)
  · have H := H.1 c11
    refine am_R.next ((hp 67).trans rfl) rfl ?_
    refine r_getR ((hp 68).trans rfl) (hw.o (i := 109) (by decide) rfl) (hw.r wr_109_38) ?_
    refine am_R.next ((hp 71).trans rfl) rfl ?_
    obtain ⟨c2, H⟩ := H
    refine r_iald ((hp 72).trans rfl) (hw.a (i := 131) (by decide) rfl c2.1 c2.2) ?_
    exact am_R.ret ((hp 73).trans rfl) rfl H
  · have H := H.2 (Decidable.not_not.mp c11)
    refine am_R.next ((hp 17).trans rfl) rfl ?_
    refine am_R.next ((hp 18).trans rfl) rfl ?_
    refine am_R.next ((hp 19).trans rfl) rfl ?_
    refine r_getR ((hp 20).trans rfl) (hw.o (i := 109) (by decide) rfl) (hw.r wr_109_39) ?_
    refine am_R.next ((hp 23).trans rfl) rfl ?_
    refine am_R.next ((hp 25).trans rfl) rfl ?_
    refine am_R.next ((hp 26).trans rfl) rfl ?_
    refine am_R.next ((hp 27).trans rfl) rfl ?_
    refine am_R.next ((hp 28).trans rfl) rfl ?_
    obtain ⟨c3, H⟩ := H
    refine r_lald ((hp 29).trans rfl) (hw.a (i := 132) (by decide) rfl c3.1 c3.2) ?_
    refine r_cv (bs := [.inr (.inl (h.2.2.2 132 ((am_w ((am_w (40 * x1)) + x2)).toNat)))]) (st' := [.inr (.inr ((109 : Nat) : Int))]) ((hp 30).trans rfl) (hw.o (i := 109) (by decide) rfl) rfl rfl (Nat.le_of_ble_eq_true rfl) (Nat.le_of_ble_eq_true rfl) (am_R.post H (fun v g4 hq => ?_))
    obtain ⟨r5, rfl, hw, H⟩ := hq
    change am_R _ _ _ _ _ [.inl r5, .inr (.inr ((109 : Nat) : Int))] _ _
    obtain ⟨h6, eh6⟩ : ∃ z : am_H, z = am_put g4 109 18 r5 := ⟨_, rfl⟩
    have H := H h6 eh6
    refine r_putI ((hp 33).trans rfl) (hw.o (i := 109) (by decide) rfl) ?_
    have hw : wf h6 := by rw [eh6]; exact hw.put np_109_18
    change am_R _ _ _ _ _ _ (am_put g4 109 18 r5) _
    rw [← eh6]
    refine am_R.next ((hp 36).trans rfl) rfl ?_
    refine r_getI ((hp 37).trans rfl) (hw.o (i := 109) (by decide) rfl) ?_
    refine r_if ((hp 40).trans rfl) (fun c10 => ?_) (fun c10 => ?_)
    · have H := H.1 c10
      refine am_R.next ((hp 45).trans rfl) rfl ?_
      refine am_R.next ((hp 46).trans rfl) rfl ?_
      refine r_getR ((hp 47).trans rfl) (hw.o (i := 109) (by decide) rfl) (hw.r wr_109_39) ?_
      refine am_R.next ((hp 50).trans rfl) rfl ?_
      refine am_R.next ((hp 52).trans rfl) rfl ?_
      refine am_R.next ((hp 53).trans rfl) rfl ?_
      refine am_R.next ((hp 54).trans rfl) rfl ?_
      refine am_R.next ((hp 55).trans rfl) rfl ?_
      obtain ⟨c7, H⟩ := H
      refine r_lald ((hp 56).trans rfl) (hw.a (i := 132) (by decide) rfl c7.1 c7.2) ?_
      refine am_R.next ((hp 57).trans rfl) rfl ?_
      refine r_cv (bs := [.inl (am_w (h6.2.2.2 132 ((am_w ((am_w (40 * x1)) + x2)).toNat)))]) (st' := []) ((hp 58).trans rfl) (hw.o (i := 109) (by decide) rfl) rfl rfl (Nat.le_of_ble_eq_true rfl) (Nat.le_of_ble_eq_true rfl) (am_R.post H (fun v g8 hq => ?_))
      obtain ⟨rfl, hw, H⟩ := hq
      change am_R _ _ _ _ _ [] _ _
      obtain ⟨y9, ey9⟩ : ∃ z : Int, z = am_w (x2 + 1) := ⟨_, rfl⟩
      have H := H y9 ey9
      refine am_R.next (lv' := [some (.inr (.inr ((109 : Nat) : Int))), some (.inl x1), some (.inl y9)]) (st' := []) (h' := g8) (pc' := 64) ((hp 61).trans rfl) (by rw [ey9]; rfl) ?_
      refine am_R.next ((hp 64).trans rfl) rfl ?_
      exact H
    · have H := H.2 c10
      refine am_R.next ((hp 43).trans rfl) rfl ?_
      exact am_R.ret ((hp 44).trans rfl) rfl H
theorem w_M_noTray_0 {scr : Nat × (Nat → Int)} {d : Nat} {h : am_H} {Q : Option am_V → am_H → Prop} {x1 : Int} (hs : am_sc scr) (hw : wf h) (H : am_R (am_prog scr) d f_M_within 0 [some (.inr (.inl x1)), none, some (.inr (.inl 0)), none, some (.inr (.inl 3)), none] [] h (fun v g1 => ∃ r2 : Int, v = some (.inl r2) ∧ wf g1 ∧ ((¬ (r2 = 0) → ((0 ≤ x1 ∧ x1 < 4) ∧ ((¬ ((g1.2.2.2 130 x1.toNat) = (-1)) → (Q (some (.inl 0)) g1)) ∧ ((g1.2.2.2 130 x1.toNat) = (-1) → (Q (some (.inl (-6))) g1))))) ∧ (r2 = 0 → (Q (some (.inl (-2))) g1))))) : am_R (am_prog scr) (d + 1) f_M_noTray 0 [some (.inr (.inr ((109 : Nat) : Int))), some (.inl x1)] [] h Q := by
  have hp : ∀ k, (am_prog scr).1 f_M_noTray k = c_M_noTray k := fun _ => rfl
  refine am_R.next ((hp 0).trans rfl) rfl ?_
  refine am_R.next ((hp 1).trans rfl) rfl ?_
  refine am_R.next ((hp 2).trans rfl) rfl ?_
  refine am_R.next ((hp 3).trans rfl) rfl ?_
  refine r_cs (as := [.inr (.inl x1), .inr (.inl 0), .inr (.inl 3)]) (st' := []) ((hp 6).trans rfl) rfl rfl (Nat.le_of_ble_eq_true rfl) (Nat.le_of_ble_eq_true rfl) (am_R.post H (fun v g1 hq => ?_))
  obtain ⟨r2, rfl, hw, H⟩ := hq
  change am_R _ _ _ _ _ [.inl r2] _ _
  refine r_if ((hp 9).trans rfl) (fun c5 => ?_) (fun c5 => ?_)
  · have H := H.1 c5
    refine am_R.next ((hp 17).trans rfl) rfl ?_
    refine r_getR ((hp 18).trans rfl) (hw.o (i := 109) (by decide) rfl) (hw.r wr_109_37) ?_
    refine am_R.next ((hp 21).trans rfl) rfl ?_
    obtain ⟨c3, H⟩ := H
    refine r_iald ((hp 22).trans rfl) (hw.a (i := 130) (by decide) rfl c3.1 c3.2) ?_
    refine am_R.next ((hp 23).trans rfl) rfl ?_
    refine r_ic ((hp 24).trans rfl) (fun c4 => ?_) (fun c4 => ?_)
    · have H := H.1 c4
      refine am_R.next ((hp 32).trans rfl) rfl ?_
      exact am_R.ret ((hp 33).trans rfl) rfl H
    · have H := H.2 (Decidable.not_not.mp c4)
      refine am_R.next ((hp 27).trans rfl) rfl ?_
      refine am_R.next ((hp 29).trans rfl) rfl ?_
      exact am_R.ret ((hp 33).trans rfl) rfl H
  · have H := H.2 (Decidable.not_not.mp c5)
    refine am_R.next ((hp 12).trans rfl) rfl ?_
    refine am_R.next ((hp 14).trans rfl) rfl ?_
    exact am_R.ret ((hp 33).trans rfl) rfl H
theorem w_M_lastNow_0 {scr : Nat × (Nat → Int)} {d : Nat} {h : am_H} {Q : Option am_V → am_H → Prop} (hs : am_sc scr) (hw : wf h) (H : (¬ ((h.2.2.2 110 4) = 0) → (Q (some (.inl (h.2.2.2 110 12))) h)) ∧ ((h.2.2.2 110 4) = 0 → (Q (some (.inl (-1))) h))) : am_R (am_prog scr) d f_M_lastNow 0 [some (.inr (.inr ((109 : Nat) : Int)))] [] h Q := by
  have hp : ∀ k, (am_prog scr).1 f_M_lastNow k = c_M_lastNow k := fun _ => rfl
  refine am_R.next ((hp 0).trans rfl) rfl ?_
  refine r_getR ((hp 1).trans rfl) (hw.o (i := 109) (by decide) rfl) (hw.r wr_109_1) ?_
  refine am_R.next ((hp 4).trans rfl) rfl ?_
  refine r_iald ((hp 5).trans rfl) (hw.a (i := 110) (by decide) rfl (by decide) (by decide)) ?_
  refine r_if ((hp 6).trans rfl) (fun c1 => ?_) (fun c1 => ?_)
  · have H := H.1 c1
    refine am_R.next ((hp 13).trans rfl) rfl ?_
    refine r_getR ((hp 14).trans rfl) (hw.o (i := 109) (by decide) rfl) (hw.r wr_109_1) ?_
    refine am_R.next ((hp 17).trans rfl) rfl ?_
    refine r_iald ((hp 19).trans rfl) (hw.a (i := 110) (by decide) rfl (by decide) (by decide)) ?_
    exact am_R.ret ((hp 20).trans rfl) rfl H
  · have H := H.2 (Decidable.not_not.mp c1)
    refine am_R.next ((hp 9).trans rfl) rfl ?_
    refine am_R.next ((hp 10).trans rfl) rfl ?_
    exact am_R.ret ((hp 20).trans rfl) rfl H
theorem w_M_judge_0 {scr : Nat × (Nat → Int)} {d : Nat} {h : am_H} {Q : Option am_V → am_H → Prop} {x1 x2 : Int} (hs : am_sc scr) (hw : wf h) (H : ∀ h1 : am_H, h1 = am_put h 109 0 0 → (am_R (am_prog scr) d f_M_within 0 [some (.inr (.inl x2)), none, some (.inr (.inl 0)), none, some (.inr (.inl 3)), none] [] h1 (fun v g2 => ∃ r3 : Int, v = some (.inl r3) ∧ wf g2 ∧ ((¬ (r3 = 0) → (am_R (am_prog scr) d f_M_noTray 0 [some (.inr (.inr ((109 : Nat) : Int))), some (.inl x1)] [] g2 (fun v g4 => ∃ r5 : Int, v = some (.inl r5) ∧ wf g4 ∧ ((r5 = 0 → (am_R (am_prog scr) d f_M_stores 0 [some (.inr (.inr ((109 : Nat) : Int))), none] [] g4 (fun v g6 => v = none ∧ wf g6 ∧ (am_R (am_prog scr) d f_M_tells 0 [some (.inr (.inr ((109 : Nat) : Int))), some (.inl x1), none] [] g6 (fun v g7 => ∃ r8 : Int, v = some (.inl r8) ∧ wf g7 ∧ (am_R (am_prog scr) d f_M_lastNow 0 [some (.inr (.inr ((109 : Nat) : Int)))] [] g7 (fun v g9 => ∃ r10 : Int, v = some (.inl r10) ∧ wf g9 ∧ (∀ y11 : Int, y11 = am_w ((am_w (10 * (g9.2.2.2 110 14))) + (g9.2.2.2 110 13)) → (am_R (am_prog scr) d f_M_isAgain 0 [some (.inr (.inr ((109 : Nat) : Int))), none] [] g9 (fun v g12 => v = none ∧ wf g12 ∧ ((¬ (x2 = 0) → ((¬ (x2 = 1) → ((¬ (x2 = 2) → (Q (some (.inl y11)) g12)) ∧ (x2 = 2 → (Q (some (.inl r10)) g12)))) ∧ (x2 = 1 → (Q (some (.inl (g12.2.2.2 109 18))) g12)))) ∧ (x2 = 0 → ((¬ ((g12.2.2.2 109 18) = 0) → (Q (some (.inl r8)) g12)) ∧ ((g12.2.2.2 109 18) = 0 → (Q (some (.inl (-1))) g12))))))))))))))) ∧ (¬ (r5 = 0) → (Q (some (.inl r5)) g4)))))) ∧ (r3 = 0 → (Q (some (.inl (-2))) g2)))))) : am_R (am_prog scr) (d + 1) f_M_judge 0 [some (.inr (.inr ((109 : Nat) : Int))), some (.inl x1), some (.inl x2), none, none, none, none] [] h Q := by
  have hp : ∀ k, (am_prog scr).1 f_M_judge k = c_M_judge k := fun _ => rfl
  refine am_R.next ((hp 0).trans rfl) rfl ?_
  refine am_R.next ((hp 1).trans rfl) rfl ?_
  obtain ⟨h1, eh1⟩ : ∃ z : am_H, z = am_put h 109 0 0 := ⟨_, rfl⟩
  have H := H h1 eh1
  refine r_putI ((hp 2).trans rfl) (hw.o (i := 109) (by decide) rfl) ?_
  have hw : wf h1 := by rw [eh1]; exact hw.put np_109_0
  change am_R _ _ _ _ _ _ (am_put h 109 0 0) _
  rw [← eh1]
  refine am_R.next ((hp 5).trans rfl) rfl ?_
  refine am_R.next ((hp 6).trans rfl) rfl ?_
  refine am_R.next ((hp 7).trans rfl) rfl ?_
  refine am_R.next ((hp 8).trans rfl) rfl ?_
  refine r_cs (as := [.inr (.inl x2), .inr (.inl 0), .inr (.inl 3)]) (st' := []) ((hp 11).trans rfl) rfl rfl (Nat.le_of_ble_eq_true rfl) (Nat.le_of_ble_eq_true rfl) (am_R.post H (fun v g2 hq => ?_))
  obtain ⟨r3, rfl, hw, H⟩ := hq
  change am_R _ _ _ _ _ [.inl r3] _ _
  refine r_if ((hp 14).trans rfl) (fun c18 => ?_) (fun c18 => ?_)
  · have H := H.1 c18
    refine am_R.next ((hp 20).trans rfl) rfl ?_
    refine am_R.next ((hp 21).trans rfl) rfl ?_
    refine r_cv (bs := [.inl x1]) (st' := []) ((hp 22).trans rfl) (hw.o (i := 109) (by decide) rfl) rfl rfl (Nat.le_of_ble_eq_true rfl) (Nat.le_of_ble_eq_true rfl) (am_R.post H (fun v g4 hq => ?_))
    obtain ⟨r5, rfl, hw, H⟩ := hq
    change am_R _ _ _ _ _ [.inl r5] _ _
    refine am_R.next (lv' := [some (.inr (.inr ((109 : Nat) : Int))), some (.inl x1), some (.inl x2), some (.inl r5), none, none, none]) ((hp 25).trans rfl) rfl ?_
    refine am_R.next ((hp 26).trans rfl) rfl ?_
    refine r_if ((hp 27).trans rfl) (fun c17 => ?_) (fun c17 => ?_)
    · have H := H.1 c17
      refine am_R.next ((hp 32).trans rfl) rfl ?_
      refine r_cv (bs := []) (st' := []) ((hp 33).trans rfl) (hw.o (i := 109) (by decide) rfl) rfl rfl (Nat.le_of_ble_eq_true rfl) (Nat.le_of_ble_eq_true rfl) (am_R.post H (fun v g6 hq => ?_))
      obtain ⟨rfl, hw, H⟩ := hq
      change am_R _ _ _ _ _ [] _ _
      refine am_R.next ((hp 36).trans rfl) rfl ?_
      refine am_R.next ((hp 37).trans rfl) rfl ?_
      refine r_cv (bs := [.inl x1]) (st' := []) ((hp 38).trans rfl) (hw.o (i := 109) (by decide) rfl) rfl rfl (Nat.le_of_ble_eq_true rfl) (Nat.le_of_ble_eq_true rfl) (am_R.post H (fun v g7 hq => ?_))
      obtain ⟨r8, rfl, hw, H⟩ := hq
      change am_R _ _ _ _ _ [.inl r8] _ _
      refine am_R.next (lv' := [some (.inr (.inr ((109 : Nat) : Int))), some (.inl x1), some (.inl x2), some (.inl r5), some (.inl r8), none, none]) ((hp 41).trans rfl) rfl ?_
      refine am_R.next ((hp 43).trans rfl) rfl ?_
      refine r_cv (bs := []) (st' := []) ((hp 44).trans rfl) (hw.o (i := 109) (by decide) rfl) rfl rfl (Nat.le_of_ble_eq_true rfl) (Nat.le_of_ble_eq_true rfl) (am_R.post H (fun v g9 hq => ?_))
      obtain ⟨r10, rfl, hw, H⟩ := hq
      change am_R _ _ _ _ _ [.inl r10] _ _
      refine am_R.next (lv' := [some (.inr (.inr ((109 : Nat) : Int))), some (.inl x1), some (.inl x2), some (.inl r5), some (.inl r8), some (.inl r10), none]) ((hp 47).trans rfl) rfl ?_
      refine am_R.next ((hp 49).trans rfl) rfl ?_
      refine am_R.next ((hp 51).trans rfl) rfl ?_
      refine r_getR ((hp 52).trans rfl) (hw.o (i := 109) (by decide) rfl) (hw.r wr_109_1) ?_
      refine am_R.next ((hp 55).trans rfl) rfl ?_
      refine r_iald ((hp 57).trans rfl) (hw.a (i := 110) (by decide) rfl (by decide) (by decide)) ?_
      refine am_R.next ((hp 58).trans rfl) rfl ?_
      refine am_R.next ((hp 59).trans rfl) rfl ?_
      refine r_getR ((hp 60).trans rfl) (hw.o (i := 109) (by decide) rfl) (hw.r wr_109_1) ?_
      refine am_R.next ((hp 63).trans rfl) rfl ?_
      refine r_iald ((hp 65).trans rfl) (hw.a (i := 110) (by decide) rfl (by decide) (by decide)) ?_
      refine am_R.next ((hp 66).trans rfl) rfl ?_
      obtain ⟨y11, ey11⟩ : ∃ z : Int, z = am_w ((am_w (10 * (g9.2.2.2 110 14))) + (g9.2.2.2 110 13)) := ⟨_, rfl⟩
      have H := H y11 ey11
      refine am_R.next (lv' := [some (.inr (.inr ((109 : Nat) : Int))), some (.inl x1), some (.inl x2), some (.inl r5), some (.inl r8), some (.inl r10), some (.inl y11)]) (st' := []) (h' := g9) (pc' := 69) ((hp 67).trans rfl) (by rw [ey11]; rfl) ?_
      refine am_R.next ((hp 69).trans rfl) rfl ?_
      refine r_cv (bs := []) (st' := []) ((hp 70).trans rfl) (hw.o (i := 109) (by decide) rfl) rfl rfl (Nat.le_of_ble_eq_true rfl) (Nat.le_of_ble_eq_true rfl) (am_R.post H (fun v g12 hq => ?_))
      obtain ⟨rfl, hw, H⟩ := hq
      change am_R _ _ _ _ _ [] _ _
      refine am_R.next ((hp 73).trans rfl) rfl ?_
      refine r_if ((hp 74).trans rfl) (fun c16 => ?_) (fun c16 => ?_)
      · have H := H.1 c16
        refine am_R.next ((hp 93).trans rfl) rfl ?_
        refine am_R.next ((hp 94).trans rfl) rfl ?_
        refine r_ic ((hp 95).trans rfl) (fun c14 => ?_) (fun c14 => ?_)
        · have H := H.1 c14
          refine am_R.next ((hp 105).trans rfl) rfl ?_
          refine am_R.next ((hp 106).trans rfl) rfl ?_
          refine r_ic ((hp 107).trans rfl) (fun c13 => ?_) (fun c13 => ?_)
          · have H := H.1 c13
            refine am_R.next ((hp 115).trans rfl) rfl ?_
            exact am_R.ret ((hp 117).trans rfl) rfl H
          · have H := H.2 (Decidable.not_not.mp c13)
            refine am_R.next ((hp 110).trans rfl) rfl ?_
            refine am_R.next ((hp 112).trans rfl) rfl ?_
            exact am_R.ret ((hp 117).trans rfl) rfl H
        · have H := H.2 (Decidable.not_not.mp c14)
          refine am_R.next ((hp 98).trans rfl) rfl ?_
          refine r_getI ((hp 99).trans rfl) (hw.o (i := 109) (by decide) rfl) ?_
          refine am_R.next ((hp 102).trans rfl) rfl ?_
          exact am_R.ret ((hp 117).trans rfl) rfl H
      · have H := H.2 (Decidable.not_not.mp c16)
        refine am_R.next ((hp 77).trans rfl) rfl ?_
        refine r_getI ((hp 78).trans rfl) (hw.o (i := 109) (by decide) rfl) ?_
        refine r_if ((hp 81).trans rfl) (fun c15 => ?_) (fun c15 => ?_)
        · have H := H.1 c15
          refine am_R.next ((hp 88).trans rfl) rfl ?_
          refine am_R.next ((hp 90).trans rfl) rfl ?_
          exact am_R.ret ((hp 117).trans rfl) rfl H
        · have H := H.2 (Decidable.not_not.mp c15)
          refine am_R.next ((hp 84).trans rfl) rfl ?_
          refine am_R.next ((hp 85).trans rfl) rfl ?_
          exact am_R.ret ((hp 117).trans rfl) rfl H
    · have H := H.2 c17
      refine am_R.next ((hp 30).trans rfl) rfl ?_
      exact am_R.ret ((hp 31).trans rfl) rfl H
  · have H := H.2 (Decidable.not_not.mp c18)
    refine am_R.next ((hp 17).trans rfl) rfl ?_
    exact am_R.ret ((hp 19).trans rfl) rfl H
theorem w_M_perform_0 {scr : Nat × (Nat → Int)} {d : Nat} {h : am_H} {Q : Option am_V → am_H → Prop} {x1 : Int} (hs : am_sc scr) (hw : wf h) (H : ∀ h1 : am_H, h1 = am_put h 109 0 0 → (am_R (am_prog scr) d f_M_noTray 0 [some (.inr (.inr ((109 : Nat) : Int))), some (.inl x1)] [] h1 (fun v g2 => ∃ r3 : Int, v = some (.inl r3) ∧ wf g2 ∧ ((r3 = 0 → (am_R (am_prog scr) d f_M_stores 0 [some (.inr (.inr ((109 : Nat) : Int))), none] [] g2 (fun v g4 => v = none ∧ wf g4 ∧ (am_R (am_prog scr) d f_M_tells 0 [some (.inr (.inr ((109 : Nat) : Int))), some (.inl x1), none] [] g4 (fun v g5 => ∃ r6 : Int, v = some (.inl r6) ∧ wf g5 ∧ ((r6 ≤ 0 → (Q (some (.inl r6)) g5)) ∧ (¬ (r6 ≤ 0) → (am_R (am_prog scr) d f_M_notes 0 [some (.inr (.inr ((109 : Nat) : Int))), none] [] g5 (fun v g7 => v = none ∧ wf g7 ∧ (Q (some (.inl r6)) g7)))))))))) ∧ (¬ (r3 = 0) → (Q (some (.inl r3)) g2)))))) : am_R (am_prog scr) (d + 1) f_M_perform 0 [some (.inr (.inr ((109 : Nat) : Int))), some (.inl x1), none, none] [] h Q := by
  have hp : ∀ k, (am_prog scr).1 f_M_perform k = c_M_perform k := fun _ => rfl
  refine am_R.next ((hp 0).trans rfl) rfl ?_
  refine am_R.next ((hp 1).trans rfl) rfl ?_
  obtain ⟨h1, eh1⟩ : ∃ z : am_H, z = am_put h 109 0 0 := ⟨_, rfl⟩
  have H := H h1 eh1
  refine r_putI ((hp 2).trans rfl) (hw.o (i := 109) (by decide) rfl) ?_
  have hw : wf h1 := by rw [eh1]; exact hw.put np_109_0
  change am_R _ _ _ _ _ _ (am_put h 109 0 0) _
  rw [← eh1]
  refine am_R.next ((hp 5).trans rfl) rfl ?_
  refine am_R.next ((hp 6).trans rfl) rfl ?_
  refine r_cv (bs := [.inl x1]) (st' := []) ((hp 7).trans rfl) (hw.o (i := 109) (by decide) rfl) rfl rfl (Nat.le_of_ble_eq_true rfl) (Nat.le_of_ble_eq_true rfl) (am_R.post H (fun v g2 hq => ?_))
  obtain ⟨r3, rfl, hw, H⟩ := hq
  change am_R _ _ _ _ _ [.inl r3] _ _
  refine am_R.next (lv' := [some (.inr (.inr ((109 : Nat) : Int))), some (.inl x1), some (.inl r3), none]) ((hp 10).trans rfl) rfl ?_
  refine am_R.next ((hp 11).trans rfl) rfl ?_
  refine r_if ((hp 12).trans rfl) (fun c9 => ?_) (fun c9 => ?_)
  · have H := H.1 c9
    refine am_R.next ((hp 17).trans rfl) rfl ?_
    refine r_cv (bs := []) (st' := []) ((hp 18).trans rfl) (hw.o (i := 109) (by decide) rfl) rfl rfl (Nat.le_of_ble_eq_true rfl) (Nat.le_of_ble_eq_true rfl) (am_R.post H (fun v g4 hq => ?_))
    obtain ⟨rfl, hw, H⟩ := hq
    change am_R _ _ _ _ _ [] _ _
    refine am_R.next ((hp 21).trans rfl) rfl ?_
    refine am_R.next ((hp 22).trans rfl) rfl ?_
    refine r_cv (bs := [.inl x1]) (st' := []) ((hp 23).trans rfl) (hw.o (i := 109) (by decide) rfl) rfl rfl (Nat.le_of_ble_eq_true rfl) (Nat.le_of_ble_eq_true rfl) (am_R.post H (fun v g5 hq => ?_))
    obtain ⟨r6, rfl, hw, H⟩ := hq
    change am_R _ _ _ _ _ [.inl r6] _ _
    refine am_R.next (lv' := [some (.inr (.inr ((109 : Nat) : Int))), some (.inl x1), some (.inl r3), some (.inl r6)]) ((hp 26).trans rfl) rfl ?_
    refine am_R.next ((hp 27).trans rfl) rfl ?_
    refine r_if ((hp 28).trans rfl) (fun c8 => ?_) (fun c8 => ?_)
    · have H := H.1 c8
      refine am_R.next ((hp 35).trans rfl) rfl ?_
      exact am_R.ret ((hp 36).trans rfl) rfl H
    · have H := H.2 c8
      refine am_R.next ((hp 31).trans rfl) rfl ?_
      refine r_cv (bs := []) (st' := []) ((hp 32).trans rfl) (hw.o (i := 109) (by decide) rfl) rfl rfl (Nat.le_of_ble_eq_true rfl) (Nat.le_of_ble_eq_true rfl) (am_R.post H (fun v g7 hq => ?_))
      obtain ⟨rfl, hw, H⟩ := hq
      change am_R _ _ _ _ _ [] _ _
      refine am_R.next ((hp 35).trans rfl) rfl ?_
      exact am_R.ret ((hp 36).trans rfl) rfl H
  · have H := H.2 c9
    refine am_R.next ((hp 15).trans rfl) rfl ?_
    exact am_R.ret ((hp 16).trans rfl) rfl H
theorem w_M_draw_0 {scr : Nat × (Nat → Int)} {d : Nat} {h : am_H} {Q : Option am_V → am_H → Prop} {x1 : Int} (hs : am_sc scr) (hw : wf h) (H : ∀ h1 : am_H, h1 = am_put h 109 19 (am_w ((am_w (1103515245 * (h.2.2.2 109 19))) + 12345)) → (x1 ≠ 0 ∧ (Q (some (.inl ((am_ushr (h1.2.2.2 109 19) 16).tmod x1))) h1))) : am_R (am_prog scr) d f_M_draw 0 [some (.inr (.inr ((109 : Nat) : Int))), some (.inl x1)] [] h Q := by
  have hp : ∀ k, (am_prog scr).1 f_M_draw k = c_M_draw k := fun _ => rfl
  refine am_R.next ((hp 0).trans rfl) rfl ?_
  refine am_R.next ((hp 1).trans rfl) rfl ?_
  refine am_R.next ((hp 4).trans rfl) rfl ?_
  refine r_getI ((hp 5).trans rfl) (hw.o (i := 109) (by decide) rfl) ?_
  refine am_R.next ((hp 8).trans rfl) rfl ?_
  refine am_R.next ((hp 9).trans rfl) rfl ?_
  refine am_R.next ((hp 12).trans rfl) rfl ?_
  obtain ⟨h1, eh1⟩ : ∃ z : am_H, z = am_put h 109 19 (am_w ((am_w (1103515245 * (h.2.2.2 109 19))) + 12345)) := ⟨_, rfl⟩
  have H := H h1 eh1
  refine r_putI ((hp 13).trans rfl) (hw.o (i := 109) (by decide) rfl) ?_
  have hw : wf h1 := by rw [eh1]; exact hw.put np_109_19
  change am_R _ _ _ _ _ _ (am_put h 109 19 (am_w ((am_w (1103515245 * (h.2.2.2 109 19))) + 12345))) _
  rw [← eh1]
  refine am_R.next ((hp 16).trans rfl) rfl ?_
  refine r_getI ((hp 17).trans rfl) (hw.o (i := 109) (by decide) rfl) ?_
  refine am_R.next ((hp 20).trans rfl) rfl ?_
  refine am_R.next ((hp 22).trans rfl) rfl ?_
  refine am_R.next ((hp 23).trans rfl) rfl ?_
  obtain ⟨c2, H⟩ := H
  refine r_i2z ((hp 24).trans rfl) c2 ?_
  exact am_R.ret ((hp 25).trans rfl) rfl H
theorem w_M_drawn_0 {scr : Nat × (Nat → Int)} {d : Nat} {h : am_H} {Q : Option am_V → am_H → Prop} (hs : am_sc scr) (hw : wf h) (H : am_R (am_prog scr) d f_M_draw 0 [some (.inr (.inr ((109 : Nat) : Int))), some (.inl 6)] [] h (fun v g1 => ∃ r2 : Int, v = some (.inl r2) ∧ wf g1 ∧ ((¬ (r2 < 2) → ((¬ (r2 < 4) → (am_R (am_prog scr) d f_M_draw 0 [some (.inr (.inr ((109 : Nat) : Int))), some (.inl 6)] [] g1 (fun v g3 => ∃ r4 : Int, v = some (.inl r4) ∧ wf g3 ∧ ((¬ (r2 = 4) → (am_R (am_prog scr) d f_M_draw 0 [some (.inr (.inr ((109 : Nat) : Int))), some (.inl 10)] [] g3 (fun v g5 => ∃ r6 : Int, v = some (.inl r6) ∧ wf g5 ∧ (Q (some (.inl (am_w ((am_w (200 + (am_w (10 * r4)))) + r6)))) g5)))) ∧ (r2 = 4 → (am_R (am_prog scr) d f_M_draw 0 [some (.inr (.inr ((109 : Nat) : Int))), some (.inl 6)] [] g3 (fun v g7 => ∃ r8 : Int, v = some (.inl r8) ∧ wf g7 ∧ (Q (some (.inl (am_w ((am_w (100 + (am_w (10 * r4)))) + r8)))) g7)))))))) ∧ (r2 < 4 → ((¬ (r2 = 2) → (am_R (am_prog scr) d f_M_draw 0 [some (.inr (.inr ((109 : Nat) : Int))), some (.inl 10)] [] g1 (fun v g10 => ∃ r11 : Int, v = some (.inl r11) ∧ wf g10 ∧ (Q (some (.inl (am_w (10 + r11)))) g10)))) ∧ (r2 = 2 → (am_R (am_prog scr) d f_M_draw 0 [some (.inr (.inr ((109 : Nat) : Int))), some (.inl 7)] [] g1 (fun v g12 => ∃ r13 : Int, v = some (.inl r13) ∧ wf g12 ∧ (Q (some (.inl r13)) g12)))))))) ∧ (r2 < 2 → (Q (some (.inl 0)) g1))))) : am_R (am_prog scr) (d + 1) f_M_drawn 0 [some (.inr (.inr ((109 : Nat) : Int))), none, none] [] h Q := by
  have hp : ∀ k, (am_prog scr).1 f_M_drawn k = c_M_drawn k := fun _ => rfl
  refine am_R.next ((hp 0).trans rfl) rfl ?_
  refine am_R.next ((hp 1).trans rfl) rfl ?_
  refine r_cv (bs := [.inl 6]) (st' := []) ((hp 3).trans rfl) (hw.o (i := 109) (by decide) rfl) rfl rfl (Nat.le_of_ble_eq_true rfl) (Nat.le_of_ble_eq_true rfl) (am_R.post H (fun v g1 hq => ?_))
  obtain ⟨r2, rfl, hw, H⟩ := hq
  change am_R _ _ _ _ _ [.inl r2] _ _
  refine am_R.next (lv' := [some (.inr (.inr ((109 : Nat) : Int))), some (.inl r2), none]) ((hp 6).trans rfl) rfl ?_
  refine am_R.next ((hp 7).trans rfl) rfl ?_
  refine am_R.next ((hp 8).trans rfl) rfl ?_
  refine r_ic ((hp 9).trans rfl) (fun c16 => ?_) (fun c16 => ?_)
  · have H := H.1 c16
    refine am_R.next ((hp 14).trans rfl) rfl ?_
    refine am_R.next ((hp 15).trans rfl) rfl ?_
    refine r_ic ((hp 16).trans rfl) (fun c15 => ?_) (fun c15 => ?_)
    · have H := H.1 c15
      refine am_R.next ((hp 43).trans rfl) rfl ?_
      refine am_R.next ((hp 44).trans rfl) rfl ?_
      refine r_cv (bs := [.inl 6]) (st' := []) ((hp 46).trans rfl) (hw.o (i := 109) (by decide) rfl) rfl rfl (Nat.le_of_ble_eq_true rfl) (Nat.le_of_ble_eq_true rfl) (am_R.post H (fun v g3 hq => ?_))
      obtain ⟨r4, rfl, hw, H⟩ := hq
      change am_R _ _ _ _ _ [.inl r4] _ _
      refine am_R.next (lv' := [some (.inr (.inr ((109 : Nat) : Int))), some (.inl r2), some (.inl r4)]) ((hp 49).trans rfl) rfl ?_
      refine am_R.next ((hp 50).trans rfl) rfl ?_
      refine am_R.next ((hp 51).trans rfl) rfl ?_
      refine r_ic ((hp 52).trans rfl) (fun c9 => ?_) (fun c9 => ?_)
      · have H := H.1 c9
        refine am_R.next ((hp 72).trans rfl) rfl ?_
        refine am_R.next ((hp 75).trans rfl) rfl ?_
        refine am_R.next ((hp 77).trans rfl) rfl ?_
        refine am_R.next ((hp 78).trans rfl) rfl ?_
        refine am_R.next ((hp 79).trans rfl) rfl ?_
        refine am_R.next ((hp 80).trans rfl) rfl ?_
        refine am_R.next ((hp 81).trans rfl) rfl ?_
        refine r_cv (bs := [.inl 10]) (st' := [.inl (am_w (200 + (am_w (10 * r4))))]) ((hp 83).trans rfl) (hw.o (i := 109) (by decide) rfl) rfl rfl (Nat.le_of_ble_eq_true rfl) (Nat.le_of_ble_eq_true rfl) (am_R.post H (fun v g5 hq => ?_))
        obtain ⟨r6, rfl, hw, H⟩ := hq
        change am_R _ _ _ _ _ [.inl r6, .inl (am_w (200 + (am_w (10 * r4))))] _ _
        refine am_R.next ((hp 86).trans rfl) rfl ?_
        exact am_R.ret ((hp 87).trans rfl) rfl H
      · have H := H.2 (Decidable.not_not.mp c9)
        refine am_R.next ((hp 55).trans rfl) rfl ?_
        refine am_R.next ((hp 57).trans rfl) rfl ?_
        refine am_R.next ((hp 59).trans rfl) rfl ?_
        refine am_R.next ((hp 60).trans rfl) rfl ?_
        refine am_R.next ((hp 61).trans rfl) rfl ?_
        refine am_R.next ((hp 62).trans rfl) rfl ?_
        refine am_R.next ((hp 63).trans rfl) rfl ?_
        refine r_cv (bs := [.inl 6]) (st' := [.inl (am_w (100 + (am_w (10 * r4))))]) ((hp 65).trans rfl) (hw.o (i := 109) (by decide) rfl) rfl rfl (Nat.le_of_ble_eq_true rfl) (Nat.le_of_ble_eq_true rfl) (am_R.post H (fun v g7 hq => ?_))
        obtain ⟨r8, rfl, hw, H⟩ := hq
        change am_R _ _ _ _ _ [.inl r8, .inl (am_w (100 + (am_w (10 * r4))))] _ _
        refine am_R.next ((hp 68).trans rfl) rfl ?_
        refine am_R.next ((hp 69).trans rfl) rfl ?_
        exact am_R.ret ((hp 87).trans rfl) rfl H
    · have H := H.2 (Decidable.not_not.mp c15)
      refine am_R.next ((hp 19).trans rfl) rfl ?_
      refine am_R.next ((hp 20).trans rfl) rfl ?_
      refine r_ic ((hp 21).trans rfl) (fun c14 => ?_) (fun c14 => ?_)
      · have H := H.1 c14
        refine am_R.next ((hp 33).trans rfl) rfl ?_
        refine am_R.next ((hp 35).trans rfl) rfl ?_
        refine am_R.next ((hp 36).trans rfl) rfl ?_
        refine r_cv (bs := [.inl 10]) (st' := [.inl 10]) ((hp 38).trans rfl) (hw.o (i := 109) (by decide) rfl) rfl rfl (Nat.le_of_ble_eq_true rfl) (Nat.le_of_ble_eq_true rfl) (am_R.post H (fun v g10 hq => ?_))
        obtain ⟨r11, rfl, hw, H⟩ := hq
        change am_R _ _ _ _ _ [.inl r11, .inl 10] _ _
        refine am_R.next ((hp 41).trans rfl) rfl ?_
        exact am_R.ret ((hp 42).trans rfl) rfl H
      · have H := H.2 (Decidable.not_not.mp c14)
        refine am_R.next ((hp 24).trans rfl) rfl ?_
        refine am_R.next ((hp 25).trans rfl) rfl ?_
        refine r_cv (bs := [.inl 7]) (st' := []) ((hp 27).trans rfl) (hw.o (i := 109) (by decide) rfl) rfl rfl (Nat.le_of_ble_eq_true rfl) (Nat.le_of_ble_eq_true rfl) (am_R.post H (fun v g12 hq => ?_))
        obtain ⟨r13, rfl, hw, H⟩ := hq
        change am_R _ _ _ _ _ [.inl r13] _ _
        refine am_R.next ((hp 30).trans rfl) rfl ?_
        exact am_R.ret ((hp 42).trans rfl) rfl H
  · have H := H.2 (Decidable.not_not.mp c16)
    refine am_R.next ((hp 12).trans rfl) rfl ?_
    exact am_R.ret ((hp 13).trans rfl) rfl H
theorem w_M_night_0 {scr : Nat × (Nat → Int)} {d : Nat} {h : am_H} {Q : Option am_V → am_H → Prop} {x1 x2 : Int} (hs : am_sc scr) (hw : wf h) (H : ∀ h1 : am_H, h1 = am_put h 109 0 0 → (am_R (am_prog scr) d f_M_within 0 [some (.inr (.inl x2)), none, some (.inr (.inl 1)), none, some (.inr (.inl 40)), none] [] h1 (fun v g2 => ∃ r3 : Int, v = some (.inl r3) ∧ wf g2 ∧ ((¬ (r3 = 0) → (am_R (am_prog scr) d f_M_stores 0 [some (.inr (.inr ((109 : Nat) : Int))), none] [] g2 (fun v g4 => v = none ∧ wf g4 ∧ (∀ h5 : am_H, h5 = am_put g4 109 19 x1 → (am_R (am_prog scr) (d + 1) f_M_night 34 [some (.inr (.inr ((109 : Nat) : Int))), some (.inl x1), some (.inl x2), some (.inl 0), some (.inl 0), none] [] h5 Q))))) ∧ (r3 = 0 → (Q (some (.inl (-3))) g2)))))) : am_R (am_prog scr) (d + 1) f_M_night 0 [some (.inr (.inr ((109 : Nat) : Int))), some (.inl x1), some (.inl x2), none, none, none] [] h Q := by
  have hp : ∀ k, (am_prog scr).1 f_M_night k = c_M_night k := fun _ => rfl
  refine am_R.next ((hp 0).trans rfl) rfl ?_
  refine am_R.next ((hp 1).trans rfl) rfl ?_
  obtain ⟨h1, eh1⟩ : ∃ z : am_H, z = am_put h 109 0 0 := ⟨_, rfl⟩
  have H := H h1 eh1
  refine r_putI ((hp 2).trans rfl) (hw.o (i := 109) (by decide) rfl) ?_
  have hw : wf h1 := by rw [eh1]; exact hw.put np_109_0
  change am_R _ _ _ _ _ _ (am_put h 109 0 0) _
  rw [← eh1]
  refine am_R.next ((hp 5).trans rfl) rfl ?_
  refine am_R.next ((hp 6).trans rfl) rfl ?_
  refine am_R.next ((hp 7).trans rfl) rfl ?_
  refine am_R.next ((hp 8).trans rfl) rfl ?_
  refine r_cs (as := [.inr (.inl x2), .inr (.inl 1), .inr (.inl 40)]) (st' := []) ((hp 11).trans rfl) rfl rfl (Nat.le_of_ble_eq_true rfl) (Nat.le_of_ble_eq_true rfl) (am_R.post H (fun v g2 hq => ?_))
  obtain ⟨r3, rfl, hw, H⟩ := hq
  change am_R _ _ _ _ _ [.inl r3] _ _
  refine r_if ((hp 14).trans rfl) (fun c6 => ?_) (fun c6 => ?_)
  · have H := H.1 c6
    refine am_R.next ((hp 20).trans rfl) rfl ?_
    refine r_cv (bs := []) (st' := []) ((hp 21).trans rfl) (hw.o (i := 109) (by decide) rfl) rfl rfl (Nat.le_of_ble_eq_true rfl) (Nat.le_of_ble_eq_true rfl) (am_R.post H (fun v g4 hq => ?_))
    obtain ⟨rfl, hw, H⟩ := hq
    change am_R _ _ _ _ _ [] _ _
    refine am_R.next ((hp 24).trans rfl) rfl ?_
    refine am_R.next ((hp 25).trans rfl) rfl ?_
    obtain ⟨h5, eh5⟩ : ∃ z : am_H, z = am_put g4 109 19 x1 := ⟨_, rfl⟩
    have H := H h5 eh5
    refine r_putI ((hp 26).trans rfl) (hw.o (i := 109) (by decide) rfl) ?_
    have hw : wf h5 := by rw [eh5]; exact hw.put np_109_19
    change am_R _ _ _ _ _ _ (am_put g4 109 19 x1) _
    rw [← eh5]
    refine am_R.next ((hp 29).trans rfl) rfl ?_
    refine am_R.next (lv' := [some (.inr (.inr ((109 : Nat) : Int))), some (.inl x1), some (.inl x2), some (.inl 0), none, none]) ((hp 30).trans rfl) rfl ?_
    refine am_R.next ((hp 31).trans rfl) rfl ?_
    refine am_R.next (lv' := [some (.inr (.inr ((109 : Nat) : Int))), some (.inl x1), some (.inl x2), some (.inl 0), some (.inl 0), none]) ((hp 32).trans rfl) rfl ?_
    exact H
  · have H := H.2 (Decidable.not_not.mp c6)
    refine am_R.next ((hp 17).trans rfl) rfl ?_
    exact am_R.ret ((hp 19).trans rfl) rfl H
theorem w_M_night_34 {scr : Nat × (Nat → Int)} {d : Nat} {h : am_H} {Q : Option am_V → am_H → Prop} {x1 x2 x3 x4 : Int} (hs : am_sc scr) (hw : wf h) (H : (¬ (x4 < x2) → ((x3 ≤ 0 → (Q (some (.inl x3)) h)) ∧ (¬ (x3 ≤ 0) → (am_R (am_prog scr) d f_M_notes 0 [some (.inr (.inr ((109 : Nat) : Int))), none] [] h (fun v g1 => v = none ∧ wf g1 ∧ (Q (some (.inl x3)) g1)))))) ∧ (x4 < x2 → (am_R (am_prog scr) d f_M_drawn 0 [some (.inr (.inr ((109 : Nat) : Int))), none, none] [] h (fun v g3 => ∃ r4 : Int, v = some (.inl r4) ∧ wf g3 ∧ (am_R (am_prog scr) d f_M_whyNot 0 [some (.inr (.inr ((109 : Nat) : Int))), some (.inr (.inl r4)), none] [] g3 (fun v g5 => ∃ r6 : Int, v = some (.inl r6) ∧ wf g5 ∧ ((r6 = 0 → (am_R (am_prog scr) d f_M_does 0 [some (.inr (.inr ((109 : Nat) : Int))), some (.inl r4)] [] g5 (fun v g7 => v = none ∧ wf g7 ∧ (∀ y8 : Int, y8 = am_w (x3 + 1) → (∀ y9 : Int, y9 = am_w (x4 + 1) → (am_R (am_prog scr) (d + 1) f_M_night 34 [some (.inr (.inr ((109 : Nat) : Int))), some (.inl x1), some (.inl x2), some (.inl y8), some (.inl y9), none] [] g7 Q)))))) ∧ (¬ (r6 = 0) → (∀ y10 : Int, y10 = am_w (x4 + 1) → (am_R (am_prog scr) (d + 1) f_M_night 34 [some (.inr (.inr ((109 : Nat) : Int))), some (.inl x1), some (.inl x2), some (.inl x3), some (.inl y10), none] [] g5 Q)))))))))) : am_R (am_prog scr) (d + 1) f_M_night 34 [some (.inr (.inr ((109 : Nat) : Int))), some (.inl x1), some (.inl x2), some (.inl x3), some (.inl x4), none] [] h Q := by
  have hp : ∀ k, (am_prog scr).1 f_M_night k = c_M_night k := fun _ => rfl
  refine am_R.next ((hp 34).trans rfl) rfl ?_
  refine am_R.next ((hp 36).trans rfl) rfl ?_
  refine r_ic ((hp 37).trans rfl) (fun c12 => ?_) (fun c12 => ?_)
  · have H := H.1 c12
    refine am_R.next ((hp 74).trans rfl) rfl ?_
    refine r_if ((hp 75).trans rfl) (fun c2 => ?_) (fun c2 => ?_)
    · have H := H.1 c2
      refine am_R.next ((hp 82).trans rfl) rfl ?_
      exact am_R.ret ((hp 83).trans rfl) rfl H
    · have H := H.2 c2
      refine am_R.next ((hp 78).trans rfl) rfl ?_
      refine r_cv (bs := []) (st' := []) ((hp 79).trans rfl) (hw.o (i := 109) (by decide) rfl) rfl rfl (Nat.le_of_ble_eq_true rfl) (Nat.le_of_ble_eq_true rfl) (am_R.post H (fun v g1 hq => ?_))
      obtain ⟨rfl, hw, H⟩ := hq
      change am_R _ _ _ _ _ [] _ _
      refine am_R.next ((hp 82).trans rfl) rfl ?_
      exact am_R.ret ((hp 83).trans rfl) rfl H
  · have H := H.2 (Decidable.not_not.mp c12)
    refine am_R.next ((hp 40).trans rfl) rfl ?_
    refine r_cv (bs := []) (st' := []) ((hp 41).trans rfl) (hw.o (i := 109) (by decide) rfl) rfl rfl (Nat.le_of_ble_eq_true rfl) (Nat.le_of_ble_eq_true rfl) (am_R.post H (fun v g3 hq => ?_))
    obtain ⟨r4, rfl, hw, H⟩ := hq
    change am_R _ _ _ _ _ [.inl r4] _ _
    refine am_R.next (lv' := [some (.inr (.inr ((109 : Nat) : Int))), some (.inl x1), some (.inl x2), some (.inl x3), some (.inl x4), some (.inl r4)]) ((hp 44).trans rfl) rfl ?_
    refine am_R.next ((hp 46).trans rfl) rfl ?_
    refine am_R.next ((hp 47).trans rfl) rfl ?_
    refine am_R.next ((hp 49).trans rfl) rfl ?_
    refine r_cv (bs := [.inr (.inl r4)]) (st' := []) ((hp 50).trans rfl) (hw.o (i := 109) (by decide) rfl) rfl rfl (Nat.le_of_ble_eq_true rfl) (Nat.le_of_ble_eq_true rfl) (am_R.post H (fun v g5 hq => ?_))
    obtain ⟨r6, rfl, hw, H⟩ := hq
    change am_R _ _ _ _ _ [.inl r6] _ _
    refine r_if ((hp 53).trans rfl) (fun c11 => ?_) (fun c11 => ?_)
    · have H := H.1 c11
      refine am_R.next ((hp 59).trans rfl) rfl ?_
      refine am_R.next ((hp 60).trans rfl) rfl ?_
      refine r_cv (bs := [.inl r4]) (st' := []) ((hp 62).trans rfl) (hw.o (i := 109) (by decide) rfl) rfl rfl (Nat.le_of_ble_eq_true rfl) (Nat.le_of_ble_eq_true rfl) (am_R.post H (fun v g7 hq => ?_))
      obtain ⟨rfl, hw, H⟩ := hq
      change am_R _ _ _ _ _ [] _ _
      obtain ⟨y8, ey8⟩ : ∃ z : Int, z = am_w (x3 + 1) := ⟨_, rfl⟩
      have H := H y8 ey8
      refine am_R.next (lv' := [some (.inr (.inr ((109 : Nat) : Int))), some (.inl x1), some (.inl x2), some (.inl y8), some (.inl x4), some (.inl r4)]) (st' := []) (h' := g7) (pc' := 68) ((hp 65).trans rfl) (by rw [ey8]; rfl) ?_
      obtain ⟨y9, ey9⟩ : ∃ z : Int, z = am_w (x4 + 1) := ⟨_, rfl⟩
      have H := H y9 ey9
      refine am_R.next (lv' := [some (.inr (.inr ((109 : Nat) : Int))), some (.inl x1), some (.inl x2), some (.inl y8), some (.inl y9), some (.inl r4)]) (st' := []) (h' := g7) (pc' := 71) ((hp 68).trans rfl) (by rw [ey9]; rfl) ?_
      refine am_R.next ((hp 71).trans rfl) rfl ?_
      exact r_le hs in_74 (le_k (le_k (le_k (le_k (le_k (le_d le_n)))))) H
    · have H := H.2 c11
      refine am_R.next ((hp 56).trans rfl) rfl ?_
      obtain ⟨y10, ey10⟩ : ∃ z : Int, z = am_w (x4 + 1) := ⟨_, rfl⟩
      have H := H y10 ey10
      refine am_R.next (lv' := [some (.inr (.inr ((109 : Nat) : Int))), some (.inl x1), some (.inl x2), some (.inl x3), some (.inl y10), some (.inl r4)]) (st' := []) (h' := g5) (pc' := 71) ((hp 68).trans rfl) (by rw [ey10]; rfl) ?_
      refine am_R.next ((hp 71).trans rfl) rfl ?_
      exact r_le hs in_74 (le_k (le_k (le_k (le_k (le_k (le_d le_n)))))) H
theorem w_M_laysLine_0 {scr : Nat × (Nat → Int)} {d : Nat} {h : am_H} {Q : Option am_V → am_H → Prop} (hs : am_sc scr) (hw : wf h) (H : am_R (am_prog scr) (d + 1) f_M_laysLine 2 [some (.inr (.inr ((109 : Nat) : Int))), some (.inl 0)] [] h Q) : am_R (am_prog scr) (d + 1) f_M_laysLine 0 [some (.inr (.inr ((109 : Nat) : Int))), none] [] h Q := by
  have hp : ∀ k, (am_prog scr).1 f_M_laysLine k = c_M_laysLine k := fun _ => rfl
  refine am_R.next ((hp 0).trans rfl) rfl ?_
  refine am_R.next (lv' := [some (.inr (.inr ((109 : Nat) : Int))), some (.inl 0)]) ((hp 1).trans rfl) rfl ?_
  exact H
theorem w_M_laysLine_2 {scr : Nat × (Nat → Int)} {d : Nat} {h : am_H} {Q : Option am_V → am_H → Prop} {x1 : Int} (hs : am_sc scr) (hw : wf h) (H : (¬ (x1 < 360) → (am_R (am_prog scr) d f_M_standNow 0 [some (.inr (.inr ((109 : Nat) : Int)))] [] h (fun v g1 => ∃ r2 : Int, v = some (.inl r2) ∧ wf g1 ∧ (∀ h3 : am_H, h3 = am_put g1 109 22 0 → (∀ h4 : am_H, h4 = am_put h3 109 23 (-1) → (am_R (am_prog scr) (d + 1) f_M_laysLine 37 [some (.inr (.inr ((109 : Nat) : Int))), some (.inl r2)] [] h4 Q)))))) ∧ (x1 < 360 → (((0 ≤ x1 ∧ x1 < 360)) ∧ (∀ h6 : am_H, h6 = am_put h 118 x1.toNat (-1) → (∀ y7 : Int, y7 = am_w (x1 + 1) → (am_R (am_prog scr) (d + 1) f_M_laysLine 2 [some (.inr (.inr ((109 : Nat) : Int))), some (.inl y7)] [] h6 Q)))))) : am_R (am_prog scr) (d + 1) f_M_laysLine 2 [some (.inr (.inr ((109 : Nat) : Int))), some (.inl x1)] [] h Q := by
  have hp : ∀ k, (am_prog scr).1 f_M_laysLine k = c_M_laysLine k := fun _ => rfl
  refine am_R.next ((hp 2).trans rfl) rfl ?_
  refine am_R.next ((hp 3).trans rfl) rfl ?_
  refine r_ic ((hp 6).trans rfl) (fun c8 => ?_) (fun c8 => ?_)
  · have H := H.1 c8
    refine am_R.next ((hp 22).trans rfl) rfl ?_
    refine r_cv (bs := []) (st' := []) ((hp 23).trans rfl) (hw.o (i := 109) (by decide) rfl) rfl rfl (Nat.le_of_ble_eq_true rfl) (Nat.le_of_ble_eq_true rfl) (am_R.post H (fun v g1 hq => ?_))
    obtain ⟨r2, rfl, hw, H⟩ := hq
    change am_R _ _ _ _ _ [.inl r2] _ _
    refine am_R.next (lv' := [some (.inr (.inr ((109 : Nat) : Int))), some (.inl r2)]) ((hp 26).trans rfl) rfl ?_
    refine am_R.next ((hp 27).trans rfl) rfl ?_
    refine am_R.next ((hp 28).trans rfl) rfl ?_
    obtain ⟨h3, eh3⟩ : ∃ z : am_H, z = am_put g1 109 22 0 := ⟨_, rfl⟩
    have H := H h3 eh3
    refine r_putI ((hp 29).trans rfl) (hw.o (i := 109) (by decide) rfl) ?_
    have hw : wf h3 := by rw [eh3]; exact hw.put np_109_22
    change am_R _ _ _ _ _ _ (am_put g1 109 22 0) _
    rw [← eh3]
    refine am_R.next ((hp 32).trans rfl) rfl ?_
    refine am_R.next ((hp 33).trans rfl) rfl ?_
    obtain ⟨h4, eh4⟩ : ∃ z : am_H, z = am_put h3 109 23 (-1) := ⟨_, rfl⟩
    have H := H h4 eh4
    refine r_putI ((hp 34).trans rfl) (hw.o (i := 109) (by decide) rfl) ?_
    have hw : wf h4 := by rw [eh4]; exact hw.put np_109_23
    change am_R _ _ _ _ _ _ (am_put h3 109 23 (-1)) _
    rw [← eh4]
    exact H
  · have H := H.2 (Decidable.not_not.mp c8)
    refine am_R.next ((hp 9).trans rfl) rfl ?_
    refine r_getR ((hp 10).trans rfl) (hw.o (i := 109) (by decide) rfl) (hw.r wr_109_21) ?_
    refine am_R.next ((hp 13).trans rfl) rfl ?_
    refine am_R.next ((hp 14).trans rfl) rfl ?_
    obtain ⟨c5, H⟩ := H
    obtain ⟨h6, eh6⟩ : ∃ z : am_H, z = am_put h 118 x1.toNat (-1) := ⟨_, rfl⟩
    have H := H h6 eh6
    refine r_iast ((hp 15).trans rfl) (hw.a (i := 118) (by decide) rfl c5.1 c5.2) ?_
    have hw : wf h6 := by rw [eh6]; exact hw.pa na_118
    change am_R _ _ _ _ _ _ (am_put h 118 x1.toNat (-1)) _
    rw [← eh6]
    obtain ⟨y7, ey7⟩ : ∃ z : Int, z = am_w (x1 + 1) := ⟨_, rfl⟩
    have H := H y7 ey7
    refine am_R.next (lv' := [some (.inr (.inr ((109 : Nat) : Int))), some (.inl y7)]) (st' := []) (h' := h6) (pc' := 19) ((hp 16).trans rfl) (by rw [ey7]; rfl) ?_
    refine am_R.next ((hp 19).trans rfl) rfl ?_
    exact H
theorem w_M_laysLine_37 {scr : Nat × (Nat → Int)} {d : Nat} {h : am_H} {Q : Option am_V → am_H → Prop} {x1 : Int} (hs : am_sc scr) (hw : wf h) (H : (0 ≤ x1 ∧ x1 < 360) ∧ ((¬ ((h.2.2.2 118 x1.toNat) = (-1)) → ((0 ≤ x1 ∧ x1 < 360) ∧ (∀ h3 : am_H, h3 = am_put h 109 23 (h.2.2.2 118 x1.toNat) → (Q none h3)))) ∧ ((h.2.2.2 118 x1.toNat) = (-1) → (((0 ≤ x1 ∧ x1 < 360)) ∧ (∀ h5 : am_H, h5 = am_put h 118 x1.toNat (h.2.2.2 109 22) → (((0 ≤ (h5.2.2.2 109 22) ∧ (h5.2.2.2 109 22) < 361)) ∧ (∀ h7 : am_H, h7 = am_put h5 117 ((h5.2.2.2 109 22).toNat) x1 → (∀ h8 : am_H, h8 = am_put h7 109 22 (am_w ((h7.2.2.2 109 22) + 1)) → (am_R (am_prog scr) d f_M_isOver 0 [some (.inr (.inr ((109 : Nat) : Int))), some (.inl x1)] [] h8 (fun v g9 => ∃ r10 : Int, v = some (.inl r10) ∧ wf g9 ∧ ((r10 = 0 → (am_R (am_prog scr) d f_M_beatTo 0 [some (.inr (.inr ((109 : Nat) : Int))), some (.inl x1), some (.inl (-1)), some (.inl (g9.2.2.2 110 28)), none, none, none] [] g9 (fun v g11 => ∃ r12 : Int, v = some (.inl r12) ∧ wf g11 ∧ (am_R (am_prog scr) (d + 1) f_M_laysLine 37 [some (.inr (.inr ((109 : Nat) : Int))), some (.inl r12)] [] g11 Q)))) ∧ (¬ (r10 = 0) → (Q none g9))))))))))))) : am_R (am_prog scr) (d + 1) f_M_laysLine 37 [some (.inr (.inr ((109 : Nat) : Int))), some (.inl x1)] [] h Q := by
  have hp : ∀ k, (am_prog scr).1 f_M_laysLine k = c_M_laysLine k := fun _ => rfl
  refine am_R.next ((hp 37).trans rfl) rfl ?_
  refine r_getR ((hp 38).trans rfl) (hw.o (i := 109) (by decide) rfl) (hw.r wr_109_21) ?_
  refine am_R.next ((hp 41).trans rfl) rfl ?_
  obtain ⟨c1, H⟩ := H
  refine r_iald ((hp 42).trans rfl) (hw.a (i := 118) (by decide) rfl c1.1 c1.2) ?_
  refine am_R.next ((hp 43).trans rfl) rfl ?_
  refine r_ic ((hp 44).trans rfl) (fun c14 => ?_) (fun c14 => ?_)
  · have H := H.1 c14
    refine am_R.next ((hp 103).trans rfl) rfl ?_
    refine am_R.next ((hp 104).trans rfl) rfl ?_
    refine r_getR ((hp 105).trans rfl) (hw.o (i := 109) (by decide) rfl) (hw.r wr_109_21) ?_
    refine am_R.next ((hp 108).trans rfl) rfl ?_
    obtain ⟨c2, H⟩ := H
    refine r_iald ((hp 109).trans rfl) (hw.a (i := 118) (by decide) rfl c2.1 c2.2) ?_
    obtain ⟨h3, eh3⟩ : ∃ z : am_H, z = am_put h 109 23 (h.2.2.2 118 x1.toNat) := ⟨_, rfl⟩
    have H := H h3 eh3
    refine r_putI ((hp 110).trans rfl) (hw.o (i := 109) (by decide) rfl) ?_
    have hw : wf h3 := by rw [eh3]; exact hw.put np_109_23
    change am_R _ _ _ _ _ _ (am_put h 109 23 (h.2.2.2 118 x1.toNat)) _
    rw [← eh3]
    exact am_R.ret ((hp 113).trans rfl) rfl H
  · have H := H.2 (Decidable.not_not.mp c14)
    refine am_R.next ((hp 47).trans rfl) rfl ?_
    refine r_getR ((hp 48).trans rfl) (hw.o (i := 109) (by decide) rfl) (hw.r wr_109_21) ?_
    refine am_R.next ((hp 51).trans rfl) rfl ?_
    refine am_R.next ((hp 52).trans rfl) rfl ?_
    refine r_getI ((hp 53).trans rfl) (hw.o (i := 109) (by decide) rfl) ?_
    obtain ⟨c4, H⟩ := H
    obtain ⟨h5, eh5⟩ : ∃ z : am_H, z = am_put h 118 x1.toNat (h.2.2.2 109 22) := ⟨_, rfl⟩
    have H := H h5 eh5
    refine r_iast ((hp 56).trans rfl) (hw.a (i := 118) (by decide) rfl c4.1 c4.2) ?_
    have hw : wf h5 := by rw [eh5]; exact hw.pa na_118
    change am_R _ _ _ _ _ _ (am_put h 118 x1.toNat (h.2.2.2 109 22)) _
    rw [← eh5]
    refine am_R.next ((hp 57).trans rfl) rfl ?_
    refine r_getR ((hp 58).trans rfl) (hw.o (i := 109) (by decide) rfl) (hw.r wr_109_20) ?_
    refine am_R.next ((hp 61).trans rfl) rfl ?_
    refine r_getI ((hp 62).trans rfl) (hw.o (i := 109) (by decide) rfl) ?_
    refine am_R.next ((hp 65).trans rfl) rfl ?_
    obtain ⟨c6, H⟩ := H
    obtain ⟨h7, eh7⟩ : ∃ z : am_H, z = am_put h5 117 ((h5.2.2.2 109 22).toNat) x1 := ⟨_, rfl⟩
    have H := H h7 eh7
    refine r_iast ((hp 66).trans rfl) (hw.a (i := 117) (by decide) rfl c6.1 c6.2) ?_
    have hw : wf h7 := by rw [eh7]; exact hw.pa na_117
    change am_R _ _ _ _ _ _ (am_put h5 117 ((h5.2.2.2 109 22).toNat) x1) _
    rw [← eh7]
    refine am_R.next ((hp 67).trans rfl) rfl ?_
    refine am_R.next ((hp 68).trans rfl) rfl ?_
    refine r_getI ((hp 69).trans rfl) (hw.o (i := 109) (by decide) rfl) ?_
    refine am_R.next ((hp 72).trans rfl) rfl ?_
    refine am_R.next ((hp 73).trans rfl) rfl ?_
    obtain ⟨h8, eh8⟩ : ∃ z : am_H, z = am_put h7 109 22 (am_w ((h7.2.2.2 109 22) + 1)) := ⟨_, rfl⟩
    have H := H h8 eh8
    refine r_putI ((hp 74).trans rfl) (hw.o (i := 109) (by decide) rfl) ?_
    have hw : wf h8 := by rw [eh8]; exact hw.put np_109_22
    change am_R _ _ _ _ _ _ (am_put h7 109 22 (am_w ((h7.2.2.2 109 22) + 1))) _
    rw [← eh8]
    refine am_R.next ((hp 77).trans rfl) rfl ?_
    refine am_R.next ((hp 78).trans rfl) rfl ?_
    refine r_cv (bs := [.inl x1]) (st' := []) ((hp 79).trans rfl) (hw.o (i := 109) (by decide) rfl) rfl rfl (Nat.le_of_ble_eq_true rfl) (Nat.le_of_ble_eq_true rfl) (am_R.post H (fun v g9 hq => ?_))
    obtain ⟨r10, rfl, hw, H⟩ := hq
    change am_R _ _ _ _ _ [.inl r10] _ _
    refine r_if ((hp 82).trans rfl) (fun c13 => ?_) (fun c13 => ?_)
    · have H := H.1 c13
      refine am_R.next ((hp 86).trans rfl) rfl ?_
      refine am_R.next ((hp 87).trans rfl) rfl ?_
      refine am_R.next ((hp 88).trans rfl) rfl ?_
      refine am_R.next ((hp 89).trans rfl) rfl ?_
      refine r_getR ((hp 90).trans rfl) (hw.o (i := 109) (by decide) rfl) (hw.r wr_109_1) ?_
      refine am_R.next ((hp 93).trans rfl) rfl ?_
      refine r_iald ((hp 95).trans rfl) (hw.a (i := 110) (by decide) rfl (by decide) (by decide)) ?_
      refine r_cv (bs := [.inl x1, .inl (-1), .inl (g9.2.2.2 110 28)]) (st' := []) ((hp 96).trans rfl) (hw.o (i := 109) (by decide) rfl) rfl rfl (Nat.le_of_ble_eq_true rfl) (Nat.le_of_ble_eq_true rfl) (am_R.post H (fun v g11 hq => ?_))
      obtain ⟨r12, rfl, hw, H⟩ := hq
      change am_R _ _ _ _ _ [.inl r12] _ _
      refine am_R.next (lv' := [some (.inr (.inr ((109 : Nat) : Int))), some (.inl r12)]) ((hp 99).trans rfl) rfl ?_
      refine am_R.next ((hp 100).trans rfl) rfl ?_
      exact H
    · have H := H.2 c13
      exact am_R.ret ((hp 85).trans rfl) rfl H
theorem w_M_goesHow_0 {scr : Nat × (Nat → Int)} {d : Nat} {h : am_H} {Q : Option am_V → am_H → Prop} (hs : am_sc scr) (hw : wf h) (H : am_R (am_prog scr) d f_M_laysLine 0 [some (.inr (.inr ((109 : Nat) : Int))), none] [] h (fun v g1 => v = none ∧ wf g1 ∧ (((g1.2.2.2 109 23) = (-1) → ((0 ≤ (am_w ((g1.2.2.2 109 22) - 1)) ∧ (am_w ((g1.2.2.2 109 22) - 1)) < 361) ∧ (am_R (am_prog scr) d f_M_hasEnded 0 [some (.inr (.inr ((109 : Nat) : Int))), some (.inl (g1.2.2.2 117 ((am_w ((g1.2.2.2 109 22) - 1)).toNat)))] [] g1 (fun v g3 => ∃ r4 : Int, v = some (.inl r4) ∧ wf g3 ∧ ((r4 = 0 → (Q (some (.inl 1)) g3)) ∧ (¬ (r4 = 0) → (Q (some (.inl 0)) g3))))))) ∧ (¬ ((g1.2.2.2 109 23) = (-1)) → (Q (some (.inl 2)) g1))))) : am_R (am_prog scr) (d + 1) f_M_goesHow 0 [some (.inr (.inr ((109 : Nat) : Int)))] [] h Q := by
  have hp : ∀ k, (am_prog scr).1 f_M_goesHow k = c_M_goesHow k := fun _ => rfl
  refine am_R.next ((hp 0).trans rfl) rfl ?_
  refine r_cv (bs := []) (st' := []) ((hp 1).trans rfl) (hw.o (i := 109) (by decide) rfl) rfl rfl (Nat.le_of_ble_eq_true rfl) (Nat.le_of_ble_eq_true rfl) (am_R.post H (fun v g1 hq => ?_))
  obtain ⟨rfl, hw, H⟩ := hq
  change am_R _ _ _ _ _ [] _ _
  refine am_R.next ((hp 4).trans rfl) rfl ?_
  refine r_getI ((hp 5).trans rfl) (hw.o (i := 109) (by decide) rfl) ?_
  refine am_R.next ((hp 8).trans rfl) rfl ?_
  refine r_ic ((hp 9).trans rfl) (fun c6 => ?_) (fun c6 => ?_)
  · have H := H.1 c6
    refine am_R.next ((hp 16).trans rfl) rfl ?_
    refine am_R.next ((hp 17).trans rfl) rfl ?_
    refine r_getR ((hp 18).trans rfl) (hw.o (i := 109) (by decide) rfl) (hw.r wr_109_20) ?_
    refine am_R.next ((hp 21).trans rfl) rfl ?_
    refine r_getI ((hp 22).trans rfl) (hw.o (i := 109) (by decide) rfl) ?_
    refine am_R.next ((hp 25).trans rfl) rfl ?_
    refine am_R.next ((hp 26).trans rfl) rfl ?_
    obtain ⟨c2, H⟩ := H
    refine r_iald ((hp 27).trans rfl) (hw.a (i := 117) (by decide) rfl c2.1 c2.2) ?_
    refine r_cv (bs := [.inl (g1.2.2.2 117 ((am_w ((g1.2.2.2 109 22) - 1)).toNat))]) (st' := []) ((hp 28).trans rfl) (hw.o (i := 109) (by decide) rfl) rfl rfl (Nat.le_of_ble_eq_true rfl) (Nat.le_of_ble_eq_true rfl) (am_R.post H (fun v g3 hq => ?_))
    obtain ⟨r4, rfl, hw, H⟩ := hq
    change am_R _ _ _ _ _ [.inl r4] _ _
    refine r_if ((hp 31).trans rfl) (fun c5 => ?_) (fun c5 => ?_)
    · have H := H.1 c5
      refine am_R.next ((hp 38).trans rfl) rfl ?_
      exact am_R.ret ((hp 39).trans rfl) rfl H
    · have H := H.2 c5
      refine am_R.next ((hp 34).trans rfl) rfl ?_
      refine am_R.next ((hp 35).trans rfl) rfl ?_
      exact am_R.ret ((hp 39).trans rfl) rfl H
  · have H := H.2 c6
    refine am_R.next ((hp 12).trans rfl) rfl ?_
    refine am_R.next ((hp 13).trans rfl) rfl ?_
    exact am_R.ret ((hp 39).trans rfl) rfl H
theorem w_M_goes_0 {scr : Nat × (Nat → Int)} {d : Nat} {h : am_H} {Q : Option am_V → am_H → Prop} {x1 : Int} (hs : am_sc scr) (hw : wf h) (H : ∀ h1 : am_H, h1 = am_put h 109 0 0 → (am_R (am_prog scr) d f_M_within 0 [some (.inr (.inl x1)), none, some (.inr (.inl 0)), none, some (.inr (.inl 1)), none] [] h1 (fun v g2 => ∃ r3 : Int, v = some (.inl r3) ∧ wf g2 ∧ ((¬ (r3 = 0) → (am_R (am_prog scr) d f_M_goesHow 0 [some (.inr (.inr ((109 : Nat) : Int)))] [] g2 (fun v g4 => ∃ r5 : Int, v = some (.inl r5) ∧ wf g4 ∧ ((¬ (x1 = 0) → ((¬ (r5 = 2) → (Q (some (.inl (am_w ((g4.2.2.2 109 22) - 1)))) g4)) ∧ (r5 = 2 → (Q (some (.inl (-1))) g4)))) ∧ (x1 = 0 → (Q (some (.inl r5)) g4)))))) ∧ (r3 = 0 → (Q (some (.inl (-2))) g2)))))) : am_R (am_prog scr) (d + 1) f_M_goes 0 [some (.inr (.inr ((109 : Nat) : Int))), some (.inl x1), none] [] h Q := by
  have hp : ∀ k, (am_prog scr).1 f_M_goes k = c_M_goes k := fun _ => rfl
  refine am_R.next ((hp 0).trans rfl) rfl ?_
  refine am_R.next ((hp 1).trans rfl) rfl ?_
  obtain ⟨h1, eh1⟩ : ∃ z : am_H, z = am_put h 109 0 0 := ⟨_, rfl⟩
  have H := H h1 eh1
  refine r_putI ((hp 2).trans rfl) (hw.o (i := 109) (by decide) rfl) ?_
  have hw : wf h1 := by rw [eh1]; exact hw.put np_109_0
  change am_R _ _ _ _ _ _ (am_put h 109 0 0) _
  rw [← eh1]
  refine am_R.next ((hp 5).trans rfl) rfl ?_
  refine am_R.next ((hp 6).trans rfl) rfl ?_
  refine am_R.next ((hp 7).trans rfl) rfl ?_
  refine am_R.next ((hp 8).trans rfl) rfl ?_
  refine r_cs (as := [.inr (.inl x1), .inr (.inl 0), .inr (.inl 1)]) (st' := []) ((hp 9).trans rfl) rfl rfl (Nat.le_of_ble_eq_true rfl) (Nat.le_of_ble_eq_true rfl) (am_R.post H (fun v g2 hq => ?_))
  obtain ⟨r3, rfl, hw, H⟩ := hq
  change am_R _ _ _ _ _ [.inl r3] _ _
  refine r_if ((hp 12).trans rfl) (fun c8 => ?_) (fun c8 => ?_)
  · have H := H.1 c8
    refine am_R.next ((hp 18).trans rfl) rfl ?_
    refine r_cv (bs := []) (st' := []) ((hp 19).trans rfl) (hw.o (i := 109) (by decide) rfl) rfl rfl (Nat.le_of_ble_eq_true rfl) (Nat.le_of_ble_eq_true rfl) (am_R.post H (fun v g4 hq => ?_))
    obtain ⟨r5, rfl, hw, H⟩ := hq
    change am_R _ _ _ _ _ [.inl r5] _ _
    refine am_R.next (lv' := [some (.inr (.inr ((109 : Nat) : Int))), some (.inl x1), some (.inl r5)]) ((hp 22).trans rfl) rfl ?_
    refine am_R.next ((hp 23).trans rfl) rfl ?_
    refine r_if ((hp 24).trans rfl) (fun c7 => ?_) (fun c7 => ?_)
    · have H := H.1 c7
      refine am_R.next ((hp 31).trans rfl) rfl ?_
      refine am_R.next ((hp 32).trans rfl) rfl ?_
      refine r_ic ((hp 33).trans rfl) (fun c6 => ?_) (fun c6 => ?_)
      · have H := H.1 c6
        refine am_R.next ((hp 40).trans rfl) rfl ?_
        refine r_getI ((hp 41).trans rfl) (hw.o (i := 109) (by decide) rfl) ?_
        refine am_R.next ((hp 44).trans rfl) rfl ?_
        refine am_R.next ((hp 45).trans rfl) rfl ?_
        exact am_R.ret ((hp 46).trans rfl) rfl H
      · have H := H.2 (Decidable.not_not.mp c6)
        refine am_R.next ((hp 36).trans rfl) rfl ?_
        refine am_R.next ((hp 37).trans rfl) rfl ?_
        exact am_R.ret ((hp 46).trans rfl) rfl H
    · have H := H.2 (Decidable.not_not.mp c7)
      refine am_R.next ((hp 27).trans rfl) rfl ?_
      refine am_R.next ((hp 28).trans rfl) rfl ?_
      exact am_R.ret ((hp 46).trans rfl) rfl H
  · have H := H.2 (Decidable.not_not.mp c8)
    refine am_R.next ((hp 15).trans rfl) rfl ?_
    exact am_R.ret ((hp 17).trans rfl) rfl H
theorem w_M_lies_0 {scr : Nat × (Nat → Int)} {d : Nat} {h : am_H} {Q : Option am_V → am_H → Prop} {x1 : Int} (hs : am_sc scr) (hw : wf h) (H : ∀ h1 : am_H, h1 = am_put h 109 0 0 → (am_R (am_prog scr) d f_M_within 0 [some (.inr (.inl x1)), none, some (.inr (.inl 1)), none, some (.inr (.inl 99999)), none] [] h1 (fun v g2 => ∃ r3 : Int, v = some (.inl r3) ∧ wf g2 ∧ ((¬ (r3 = 0) → (am_R (am_prog scr) d f_M_laysLine 0 [some (.inr (.inr ((109 : Nat) : Int))), none] [] g2 (fun v g4 => v = none ∧ wf g4 ∧ ((¬ ((g4.2.2.2 109 23) = (-1)) → ((¬ (x1 < (g4.2.2.2 109 22)) → ((am_w ((g4.2.2.2 109 22) - (g4.2.2.2 109 23))) ≠ 0 ∧ (∀ y5 : Int, y5 = am_w ((g4.2.2.2 109 23) + ((am_w (x1 - (g4.2.2.2 109 23))).tmod (am_w ((g4.2.2.2 109 22) - (g4.2.2.2 109 23))))) → ((0 ≤ y5 ∧ y5 < 361) ∧ (am_R (am_prog scr) d f_M_lastIn 0 [some (.inl (g4.2.2.2 117 y5.toNat))] [] g4 (fun v g7 => ∃ r8 : Int, v = some (.inl r8) ∧ wf g7 ∧ (Q (some (.inl r8)) g7))))))) ∧ (x1 < (g4.2.2.2 109 22) → ((0 ≤ x1 ∧ x1 < 361) ∧ (am_R (am_prog scr) d f_M_lastIn 0 [some (.inl (g4.2.2.2 117 x1.toNat))] [] g4 (fun v g11 => ∃ r12 : Int, v = some (.inl r12) ∧ wf g11 ∧ (Q (some (.inl r12)) g11))))))) ∧ ((g4.2.2.2 109 23) = (-1) → ((¬ (x1 < (g4.2.2.2 109 22)) → (Q (some (.inl (-1))) g4)) ∧ (x1 < (g4.2.2.2 109 22) → ((0 ≤ x1 ∧ x1 < 361) ∧ ((¬ (((g4.2.2.2 117 x1.toNat).tmod 2) = 1) → ((0 ≤ x1 ∧ x1 < 361) ∧ (am_R (am_prog scr) d f_M_lastIn 0 [some (.inl (g4.2.2.2 117 x1.toNat))] [] g4 (fun v g16 => ∃ r17 : Int, v = some (.inl r17) ∧ wf g16 ∧ (Q (some (.inl r17)) g16))))) ∧ (((g4.2.2.2 117 x1.toNat).tmod 2) = 1 → (Q (some (.inl (-1))) g4))))))))))) ∧ (r3 = 0 → (Q (some (.inl (-3))) g2)))))) : am_R (am_prog scr) (d + 1) f_M_lies 0 [some (.inr (.inr ((109 : Nat) : Int))), some (.inl x1), none] [] h Q := by
  have hp : ∀ k, (am_prog scr).1 f_M_lies k = c_M_lies k := fun _ => rfl
  refine am_R.next ((hp 0).trans rfl) rfl ?_
  refine am_R.next ((hp 1).trans rfl) rfl ?_
  obtain ⟨h1, eh1⟩ : ∃ z : am_H, z = am_put h 109 0 0 := ⟨_, rfl⟩
  have H := H h1 eh1
  refine r_putI ((hp 2).trans rfl) (hw.o (i := 109) (by decide) rfl) ?_
  have hw : wf h1 := by rw [eh1]; exact hw.put np_109_0
  change am_R _ _ _ _ _ _ (am_put h 109 0 0) _
  rw [← eh1]
  refine am_R.next ((hp 5).trans rfl) rfl ?_
  refine am_R.next ((hp 6).trans rfl) rfl ?_
  refine am_R.next ((hp 7).trans rfl) rfl ?_
  refine am_R.next ((hp 8).trans rfl) rfl ?_
  refine r_cs (as := [.inr (.inl x1), .inr (.inl 1), .inr (.inl 99999)]) (st' := []) ((hp 11).trans rfl) rfl rfl (Nat.le_of_ble_eq_true rfl) (Nat.le_of_ble_eq_true rfl) (am_R.post H (fun v g2 hq => ?_))
  obtain ⟨r3, rfl, hw, H⟩ := hq
  change am_R _ _ _ _ _ [.inl r3] _ _
  refine r_if ((hp 14).trans rfl) (fun c21 => ?_) (fun c21 => ?_)
  · have H := H.1 c21
    refine am_R.next ((hp 20).trans rfl) rfl ?_
    refine r_cv (bs := []) (st' := []) ((hp 21).trans rfl) (hw.o (i := 109) (by decide) rfl) rfl rfl (Nat.le_of_ble_eq_true rfl) (Nat.le_of_ble_eq_true rfl) (am_R.post H (fun v g4 hq => ?_))
    obtain ⟨rfl, hw, H⟩ := hq
    change am_R _ _ _ _ _ [] _ _
    refine am_R.next ((hp 24).trans rfl) rfl ?_
    refine r_getI ((hp 25).trans rfl) (hw.o (i := 109) (by decide) rfl) ?_
    refine am_R.next ((hp 28).trans rfl) rfl ?_
    refine r_ic ((hp 29).trans rfl) (fun c20 => ?_) (fun c20 => ?_)
    · have H := H.1 c20
      refine am_R.next ((hp 66).trans rfl) rfl ?_
      refine am_R.next ((hp 67).trans rfl) rfl ?_
      refine r_getI ((hp 68).trans rfl) (hw.o (i := 109) (by decide) rfl) ?_
      refine r_ic ((hp 71).trans rfl) (fun c13 => ?_) (fun c13 => ?_)
      · have H := H.1 c13
        refine am_R.next ((hp 78).trans rfl) rfl ?_
        refine r_getI ((hp 79).trans rfl) (hw.o (i := 109) (by decide) rfl) ?_
        refine am_R.next ((hp 82).trans rfl) rfl ?_
        refine am_R.next ((hp 83).trans rfl) rfl ?_
        refine r_getI ((hp 84).trans rfl) (hw.o (i := 109) (by decide) rfl) ?_
        refine am_R.next ((hp 87).trans rfl) rfl ?_
        refine am_R.next ((hp 88).trans rfl) rfl ?_
        refine r_getI ((hp 89).trans rfl) (hw.o (i := 109) (by decide) rfl) ?_
        refine am_R.next ((hp 92).trans rfl) rfl ?_
        refine r_getI ((hp 93).trans rfl) (hw.o (i := 109) (by decide) rfl) ?_
        refine am_R.next ((hp 96).trans rfl) rfl ?_
        obtain ⟨c9, H⟩ := H
        refine r_i2z ((hp 97).trans rfl) c9 ?_
        refine am_R.next ((hp 98).trans rfl) rfl ?_
        obtain ⟨y5, ey5⟩ : ∃ z : Int, z = am_w ((g4.2.2.2 109 23) + ((am_w (x1 - (g4.2.2.2 109 23))).tmod (am_w ((g4.2.2.2 109 22) - (g4.2.2.2 109 23))))) := ⟨_, rfl⟩
        have H := H y5 ey5
        refine am_R.next (lv' := [some (.inr (.inr ((109 : Nat) : Int))), some (.inl x1), some (.inl y5)]) (st' := []) (h' := g4) (pc' := 100) ((hp 99).trans rfl) (by rw [ey5]; rfl) ?_
        refine am_R.next ((hp 100).trans rfl) rfl ?_
        refine r_getR ((hp 101).trans rfl) (hw.o (i := 109) (by decide) rfl) (hw.r wr_109_20) ?_
        refine am_R.next ((hp 104).trans rfl) rfl ?_
        obtain ⟨c6, H⟩ := H
        refine r_iald ((hp 105).trans rfl) (hw.a (i := 117) (by decide) rfl c6.1 c6.2) ?_
        refine r_cs (as := [.inl (g4.2.2.2 117 y5.toNat)]) (st' := []) ((hp 106).trans rfl) rfl rfl (Nat.le_of_ble_eq_true rfl) (Nat.le_of_ble_eq_true rfl) (am_R.post H (fun v g7 hq => ?_))
        obtain ⟨r8, rfl, hw, H⟩ := hq
        change am_R _ _ _ _ _ [.inl r8] _ _
        exact am_R.ret ((hp 109).trans rfl) rfl H
      · have H := H.2 (Decidable.not_not.mp c13)
        refine am_R.next ((hp 74).trans rfl) rfl ?_
        refine am_R.next ((hp 75).trans rfl) rfl ?_
        refine am_R.next (lv' := [some (.inr (.inr ((109 : Nat) : Int))), some (.inl x1), some (.inl x1)]) ((hp 99).trans rfl) rfl ?_
        refine am_R.next ((hp 100).trans rfl) rfl ?_
        refine r_getR ((hp 101).trans rfl) (hw.o (i := 109) (by decide) rfl) (hw.r wr_109_20) ?_
        refine am_R.next ((hp 104).trans rfl) rfl ?_
        obtain ⟨c10, H⟩ := H
        refine r_iald ((hp 105).trans rfl) (hw.a (i := 117) (by decide) rfl c10.1 c10.2) ?_
        refine r_cs (as := [.inl (g4.2.2.2 117 x1.toNat)]) (st' := []) ((hp 106).trans rfl) rfl rfl (Nat.le_of_ble_eq_true rfl) (Nat.le_of_ble_eq_true rfl) (am_R.post H (fun v g11 hq => ?_))
        obtain ⟨r12, rfl, hw, H⟩ := hq
        change am_R _ _ _ _ _ [.inl r12] _ _
        exact am_R.ret ((hp 109).trans rfl) rfl H
    · have H := H.2 (Decidable.not_not.mp c20)
      refine am_R.next ((hp 32).trans rfl) rfl ?_
      refine am_R.next ((hp 33).trans rfl) rfl ?_
      refine r_getI ((hp 34).trans rfl) (hw.o (i := 109) (by decide) rfl) ?_
      refine r_ic ((hp 37).trans rfl) (fun c19 => ?_) (fun c19 => ?_)
      · have H := H.1 c19
        refine am_R.next ((hp 52).trans rfl) rfl ?_
        refine am_R.next ((hp 53).trans rfl) rfl ?_
        exact am_R.ret ((hp 65).trans rfl) rfl H
      · have H := H.2 (Decidable.not_not.mp c19)
        refine am_R.next ((hp 40).trans rfl) rfl ?_
        refine r_getR ((hp 41).trans rfl) (hw.o (i := 109) (by decide) rfl) (hw.r wr_109_20) ?_
        refine am_R.next ((hp 44).trans rfl) rfl ?_
        obtain ⟨c14, H⟩ := H
        refine r_iald ((hp 45).trans rfl) (hw.a (i := 117) (by decide) rfl c14.1 c14.2) ?_
        refine am_R.next ((hp 46).trans rfl) rfl ?_
        refine r_i2z ((hp 47).trans rfl) (by decide) ?_
        refine am_R.next ((hp 48).trans rfl) rfl ?_
        refine r_ic ((hp 49).trans rfl) (fun c18 => ?_) (fun c18 => ?_)
        · have H := H.1 c18
          refine am_R.next ((hp 56).trans rfl) rfl ?_
          refine r_getR ((hp 57).trans rfl) (hw.o (i := 109) (by decide) rfl) (hw.r wr_109_20) ?_
          refine am_R.next ((hp 60).trans rfl) rfl ?_
          obtain ⟨c15, H⟩ := H
          refine r_iald ((hp 61).trans rfl) (hw.a (i := 117) (by decide) rfl c15.1 c15.2) ?_
          refine r_cs (as := [.inl (g4.2.2.2 117 x1.toNat)]) (st' := []) ((hp 62).trans rfl) rfl rfl (Nat.le_of_ble_eq_true rfl) (Nat.le_of_ble_eq_true rfl) (am_R.post H (fun v g16 hq => ?_))
          obtain ⟨r17, rfl, hw, H⟩ := hq
          change am_R _ _ _ _ _ [.inl r17] _ _
          exact am_R.ret ((hp 65).trans rfl) rfl H
        · have H := H.2 (Decidable.not_not.mp c18)
          refine am_R.next ((hp 52).trans rfl) rfl ?_
          refine am_R.next ((hp 53).trans rfl) rfl ?_
          exact am_R.ret ((hp 65).trans rfl) rfl H
  · have H := H.2 (Decidable.not_not.mp c21)
    refine am_R.next ((hp 17).trans rfl) rfl ?_
    exact am_R.ret ((hp 19).trans rfl) rfl H
theorem w_M_round_0 {scr : Nat × (Nat → Int)} {d : Nat} {h : am_H} {Q : Option am_V → am_H → Prop} {x1 : Int} (hs : am_sc scr) (hw : wf h) (H : ∀ h1 : am_H, h1 = am_put h 109 0 0 → (am_R (am_prog scr) d f_M_within 0 [some (.inr (.inl x1)), none, some (.inr (.inl 0)), none, some (.inr (.inl 1)), none] [] h1 (fun v g2 => ∃ r3 : Int, v = some (.inl r3) ∧ wf g2 ∧ ((¬ (r3 = 0) → (am_R (am_prog scr) d f_M_laysLine 0 [some (.inr (.inr ((109 : Nat) : Int))), none] [] g2 (fun v g4 => v = none ∧ wf g4 ∧ ((¬ ((g4.2.2.2 109 23) = (-1)) → ((¬ (x1 = 0) → (Q (some (.inl (am_w ((g4.2.2.2 109 22) - (g4.2.2.2 109 23))))) g4)) ∧ (x1 = 0 → (Q (some (.inl (g4.2.2.2 109 23))) g4)))) ∧ ((g4.2.2.2 109 23) = (-1) → (Q (some (.inl (-1))) g4)))))) ∧ (r3 = 0 → (Q (some (.inl (-2))) g2)))))) : am_R (am_prog scr) (d + 1) f_M_round 0 [some (.inr (.inr ((109 : Nat) : Int))), some (.inl x1)] [] h Q := by
  have hp : ∀ k, (am_prog scr).1 f_M_round k = c_M_round k := fun _ => rfl
  refine am_R.next ((hp 0).trans rfl) rfl ?_
  refine am_R.next ((hp 1).trans rfl) rfl ?_
  obtain ⟨h1, eh1⟩ : ∃ z : am_H, z = am_put h 109 0 0 := ⟨_, rfl⟩
  have H := H h1 eh1
  refine r_putI ((hp 2).trans rfl) (hw.o (i := 109) (by decide) rfl) ?_
  have hw : wf h1 := by rw [eh1]; exact hw.put np_109_0
  change am_R _ _ _ _ _ _ (am_put h 109 0 0) _
  rw [← eh1]
  refine am_R.next ((hp 5).trans rfl) rfl ?_
  refine am_R.next ((hp 6).trans rfl) rfl ?_
  refine am_R.next ((hp 7).trans rfl) rfl ?_
  refine am_R.next ((hp 8).trans rfl) rfl ?_
  refine r_cs (as := [.inr (.inl x1), .inr (.inl 0), .inr (.inl 1)]) (st' := []) ((hp 9).trans rfl) rfl rfl (Nat.le_of_ble_eq_true rfl) (Nat.le_of_ble_eq_true rfl) (am_R.post H (fun v g2 hq => ?_))
  obtain ⟨r3, rfl, hw, H⟩ := hq
  change am_R _ _ _ _ _ [.inl r3] _ _
  refine r_if ((hp 12).trans rfl) (fun c7 => ?_) (fun c7 => ?_)
  · have H := H.1 c7
    refine am_R.next ((hp 18).trans rfl) rfl ?_
    refine r_cv (bs := []) (st' := []) ((hp 19).trans rfl) (hw.o (i := 109) (by decide) rfl) rfl rfl (Nat.le_of_ble_eq_true rfl) (Nat.le_of_ble_eq_true rfl) (am_R.post H (fun v g4 hq => ?_))
    obtain ⟨rfl, hw, H⟩ := hq
    change am_R _ _ _ _ _ [] _ _
    refine am_R.next ((hp 22).trans rfl) rfl ?_
    refine r_getI ((hp 23).trans rfl) (hw.o (i := 109) (by decide) rfl) ?_
    refine am_R.next ((hp 26).trans rfl) rfl ?_
    refine r_ic ((hp 27).trans rfl) (fun c6 => ?_) (fun c6 => ?_)
    · have H := H.1 c6
      refine am_R.next ((hp 34).trans rfl) rfl ?_
      refine r_if ((hp 35).trans rfl) (fun c5 => ?_) (fun c5 => ?_)
      · have H := H.1 c5
        refine am_R.next ((hp 45).trans rfl) rfl ?_
        refine r_getI ((hp 46).trans rfl) (hw.o (i := 109) (by decide) rfl) ?_
        refine am_R.next ((hp 49).trans rfl) rfl ?_
        refine r_getI ((hp 50).trans rfl) (hw.o (i := 109) (by decide) rfl) ?_
        refine am_R.next ((hp 53).trans rfl) rfl ?_
        exact am_R.ret ((hp 54).trans rfl) rfl H
      · have H := H.2 (Decidable.not_not.mp c5)
        refine am_R.next ((hp 38).trans rfl) rfl ?_
        refine r_getI ((hp 39).trans rfl) (hw.o (i := 109) (by decide) rfl) ?_
        refine am_R.next ((hp 42).trans rfl) rfl ?_
        exact am_R.ret ((hp 54).trans rfl) rfl H
    · have H := H.2 (Decidable.not_not.mp c6)
      refine am_R.next ((hp 30).trans rfl) rfl ?_
      refine am_R.next ((hp 31).trans rfl) rfl ?_
      exact am_R.ret ((hp 54).trans rfl) rfl H
  · have H := H.2 (Decidable.not_not.mp c7)
    refine am_R.next ((hp 15).trans rfl) rfl ?_
    exact am_R.ret ((hp 17).trans rfl) rfl H
theorem w_M_adds_0 {scr : Nat × (Nat → Int)} {d : Nat} {h : am_H} {Q : Option am_V → am_H → Prop} {x1 : Int} (hs : am_sc scr) (hw : wf h) (H : (0 ≤ x1 ∧ x1 < 360) ∧ (((h.2.2.2 123 x1.toNat) = 0 → (((0 ≤ x1 ∧ x1 < 360)) ∧ (∀ h3 : am_H, h3 = am_put h 123 x1.toNat 1 → (((0 ≤ (h3.2.2.2 109 29) ∧ (h3.2.2.2 109 29) < 360)) ∧ (∀ h5 : am_H, h5 = am_put h3 119 ((h3.2.2.2 109 29).toNat) x1 → (∀ h6 : am_H, h6 = am_put h5 109 29 (am_w ((h5.2.2.2 109 29) + 1)) → (Q none h6))))))) ∧ (¬ ((h.2.2.2 123 x1.toNat) = 0) → (Q none h)))) : am_R (am_prog scr) d f_M_adds 0 [some (.inr (.inr ((109 : Nat) : Int))), some (.inl x1)] [] h Q := by
  have hp : ∀ k, (am_prog scr).1 f_M_adds k = c_M_adds k := fun _ => rfl
  refine am_R.next ((hp 0).trans rfl) rfl ?_
  refine r_getR ((hp 1).trans rfl) (hw.o (i := 109) (by decide) rfl) (hw.r wr_109_28) ?_
  refine am_R.next ((hp 4).trans rfl) rfl ?_
  obtain ⟨c1, H⟩ := H
  refine r_zald ((hp 5).trans rfl) (hw.a (i := 123) (by decide) rfl c1.1 c1.2) ?_
  refine r_if ((hp 6).trans rfl) (fun c7 => ?_) (fun c7 => ?_)
  · have H := H.1 c7
    refine am_R.next ((hp 10).trans rfl) rfl ?_
    refine r_getR ((hp 11).trans rfl) (hw.o (i := 109) (by decide) rfl) (hw.r wr_109_28) ?_
    refine am_R.next ((hp 14).trans rfl) rfl ?_
    refine am_R.next ((hp 15).trans rfl) rfl ?_
    obtain ⟨c2, H⟩ := H
    obtain ⟨h3, eh3⟩ : ∃ z : am_H, z = am_put h 123 x1.toNat 1 := ⟨_, rfl⟩
    have H := H h3 eh3
    refine r_zast ((hp 16).trans rfl) (hw.a (i := 123) (by decide) rfl c2.1 c2.2) (Or.inr rfl) ?_
    have hw : wf h3 := by rw [eh3]; exact hw.pa na_123
    change am_R _ _ _ _ _ _ (am_put h 123 x1.toNat 1) _
    rw [← eh3]
    refine am_R.next ((hp 17).trans rfl) rfl ?_
    refine r_getR ((hp 18).trans rfl) (hw.o (i := 109) (by decide) rfl) (hw.r wr_109_24) ?_
    refine am_R.next ((hp 21).trans rfl) rfl ?_
    refine r_getI ((hp 22).trans rfl) (hw.o (i := 109) (by decide) rfl) ?_
    refine am_R.next ((hp 25).trans rfl) rfl ?_
    obtain ⟨c4, H⟩ := H
    obtain ⟨h5, eh5⟩ : ∃ z : am_H, z = am_put h3 119 ((h3.2.2.2 109 29).toNat) x1 := ⟨_, rfl⟩
    have H := H h5 eh5
    refine r_iast ((hp 26).trans rfl) (hw.a (i := 119) (by decide) rfl c4.1 c4.2) ?_
    have hw : wf h5 := by rw [eh5]; exact hw.pa na_119
    change am_R _ _ _ _ _ _ (am_put h3 119 ((h3.2.2.2 109 29).toNat) x1) _
    rw [← eh5]
    refine am_R.next ((hp 27).trans rfl) rfl ?_
    refine am_R.next ((hp 28).trans rfl) rfl ?_
    refine r_getI ((hp 29).trans rfl) (hw.o (i := 109) (by decide) rfl) ?_
    refine am_R.next ((hp 32).trans rfl) rfl ?_
    refine am_R.next ((hp 33).trans rfl) rfl ?_
    obtain ⟨h6, eh6⟩ : ∃ z : am_H, z = am_put h5 109 29 (am_w ((h5.2.2.2 109 29) + 1)) := ⟨_, rfl⟩
    have H := H h6 eh6
    refine r_putI ((hp 34).trans rfl) (hw.o (i := 109) (by decide) rfl) ?_
    have hw : wf h6 := by rw [eh6]; exact hw.put np_109_29
    change am_R _ _ _ _ _ _ (am_put h5 109 29 (am_w ((h5.2.2.2 109 29) + 1))) _
    rw [← eh6]
    exact am_R.ret ((hp 37).trans rfl) rfl H
  · have H := H.2 c7
    exact am_R.ret ((hp 9).trans rfl) rfl H
theorem w_M_laysStands_0 {scr : Nat × (Nat → Int)} {d : Nat} {h : am_H} {Q : Option am_V → am_H → Prop} (hs : am_sc scr) (hw : wf h) (H : am_R (am_prog scr) (d + 1) f_M_laysStands 2 [some (.inr (.inr ((109 : Nat) : Int))), some (.inl 0), none, none] [] h Q) : am_R (am_prog scr) (d + 1) f_M_laysStands 0 [some (.inr (.inr ((109 : Nat) : Int))), none, none, none] [] h Q := by
  have hp : ∀ k, (am_prog scr).1 f_M_laysStands k = c_M_laysStands k := fun _ => rfl
  refine am_R.next ((hp 0).trans rfl) rfl ?_
  refine am_R.next (lv' := [some (.inr (.inr ((109 : Nat) : Int))), some (.inl 0), none, none]) ((hp 1).trans rfl) rfl ?_
  exact H
theorem w_M_laysStands_2 {scr : Nat × (Nat → Int)} {d : Nat} {h : am_H} {Q : Option am_V → am_H → Prop} {x1 : Int} (hs : am_sc scr) (hw : wf h) (H : (¬ (x1 < 360) → (∀ h1 : am_H, h1 = am_put h 109 29 0 → (am_R (am_prog scr) d f_M_standNow 0 [some (.inr (.inr ((109 : Nat) : Int)))] [] h1 (fun v g2 => ∃ r3 : Int, v = some (.inl r3) ∧ wf g2 ∧ (am_R (am_prog scr) d f_M_adds 0 [some (.inr (.inr ((109 : Nat) : Int))), some (.inl r3)] [] g2 (fun v g4 => v = none ∧ wf g4 ∧ (am_R (am_prog scr) (d + 1) f_M_laysStands 37 [some (.inr (.inr ((109 : Nat) : Int))), some (.inl 0), none, none] [] g4 Q))))))) ∧ (x1 < 360 → (((0 ≤ x1 ∧ x1 < 360)) ∧ (∀ h6 : am_H, h6 = am_put h 123 x1.toNat 0 → (∀ y7 : Int, y7 = am_w (x1 + 1) → (am_R (am_prog scr) (d + 1) f_M_laysStands 2 [some (.inr (.inr ((109 : Nat) : Int))), some (.inl y7), none, none] [] h6 Q)))))) : am_R (am_prog scr) (d + 1) f_M_laysStands 2 [some (.inr (.inr ((109 : Nat) : Int))), some (.inl x1), none, none] [] h Q := by
  have hp : ∀ k, (am_prog scr).1 f_M_laysStands k = c_M_laysStands k := fun _ => rfl
  refine am_R.next ((hp 2).trans rfl) rfl ?_
  refine am_R.next ((hp 3).trans rfl) rfl ?_
  refine r_ic ((hp 6).trans rfl) (fun c8 => ?_) (fun c8 => ?_)
  · have H := H.1 c8
    refine am_R.next ((hp 22).trans rfl) rfl ?_
    refine am_R.next ((hp 23).trans rfl) rfl ?_
    obtain ⟨h1, eh1⟩ : ∃ z : am_H, z = am_put h 109 29 0 := ⟨_, rfl⟩
    have H := H h1 eh1
    refine r_putI ((hp 24).trans rfl) (hw.o (i := 109) (by decide) rfl) ?_
    have hw : wf h1 := by rw [eh1]; exact hw.put np_109_29
    change am_R _ _ _ _ _ _ (am_put h 109 29 0) _
    rw [← eh1]
    refine am_R.next ((hp 27).trans rfl) rfl ?_
    refine am_R.next ((hp 28).trans rfl) rfl ?_
    refine r_cv (bs := []) (st' := [.inr (.inr ((109 : Nat) : Int))]) ((hp 29).trans rfl) (hw.o (i := 109) (by decide) rfl) rfl rfl (Nat.le_of_ble_eq_true rfl) (Nat.le_of_ble_eq_true rfl) (am_R.post H (fun v g2 hq => ?_))
    obtain ⟨r3, rfl, hw, H⟩ := hq
    change am_R _ _ _ _ _ [.inl r3, .inr (.inr ((109 : Nat) : Int))] _ _
    refine r_cv (bs := [.inl r3]) (st' := []) ((hp 32).trans rfl) (hw.o (i := 109) (by decide) rfl) rfl rfl (Nat.le_of_ble_eq_true rfl) (Nat.le_of_ble_eq_true rfl) (am_R.post H (fun v g4 hq => ?_))
    obtain ⟨rfl, hw, H⟩ := hq
    change am_R _ _ _ _ _ [] _ _
    refine am_R.next ((hp 35).trans rfl) rfl ?_
    refine am_R.next (lv' := [some (.inr (.inr ((109 : Nat) : Int))), some (.inl 0), none, none]) ((hp 36).trans rfl) rfl ?_
    exact H
  · have H := H.2 (Decidable.not_not.mp c8)
    refine am_R.next ((hp 9).trans rfl) rfl ?_
    refine r_getR ((hp 10).trans rfl) (hw.o (i := 109) (by decide) rfl) (hw.r wr_109_28) ?_
    refine am_R.next ((hp 13).trans rfl) rfl ?_
    refine am_R.next ((hp 14).trans rfl) rfl ?_
    obtain ⟨c5, H⟩ := H
    obtain ⟨h6, eh6⟩ : ∃ z : am_H, z = am_put h 123 x1.toNat 0 := ⟨_, rfl⟩
    have H := H h6 eh6
    refine r_zast ((hp 15).trans rfl) (hw.a (i := 123) (by decide) rfl c5.1 c5.2) (Or.inl rfl) ?_
    have hw : wf h6 := by rw [eh6]; exact hw.pa na_123
    change am_R _ _ _ _ _ _ (am_put h 123 x1.toNat 0) _
    rw [← eh6]
    obtain ⟨y7, ey7⟩ : ∃ z : Int, z = am_w (x1 + 1) := ⟨_, rfl⟩
    have H := H y7 ey7
    refine am_R.next (lv' := [some (.inr (.inr ((109 : Nat) : Int))), some (.inl y7), none, none]) (st' := []) (h' := h6) (pc' := 19) ((hp 16).trans rfl) (by rw [ey7]; rfl) ?_
    refine am_R.next ((hp 19).trans rfl) rfl ?_
    exact H
theorem w_M_laysStands_37 {scr : Nat × (Nat → Int)} {d : Nat} {h : am_H} {Q : Option am_V → am_H → Prop} {x1 : Int} (hs : am_sc scr) (hw : wf h) (H : (¬ (x1 < (h.2.2.2 109 29)) → (Q none h)) ∧ (x1 < (h.2.2.2 109 29) → (am_R (am_prog scr) (d + 1) f_M_laysStands 47 [some (.inr (.inr ((109 : Nat) : Int))), some (.inl x1), some (.inl 0), none] [] h Q))) : am_R (am_prog scr) (d + 1) f_M_laysStands 37 [some (.inr (.inr ((109 : Nat) : Int))), some (.inl x1), none, none] [] h Q := by
  have hp : ∀ k, (am_prog scr).1 f_M_laysStands k = c_M_laysStands k := fun _ => rfl
  refine am_R.next ((hp 37).trans rfl) rfl ?_
  refine am_R.next ((hp 38).trans rfl) rfl ?_
  refine r_getI ((hp 39).trans rfl) (hw.o (i := 109) (by decide) rfl) ?_
  refine r_ic ((hp 42).trans rfl) (fun c1 => ?_) (fun c1 => ?_)
  · have H := H.1 c1
    exact am_R.ret ((hp 132).trans rfl) rfl H
  · have H := H.2 (Decidable.not_not.mp c1)
    refine am_R.next ((hp 45).trans rfl) rfl ?_
    refine am_R.next (lv' := [some (.inr (.inr ((109 : Nat) : Int))), some (.inl x1), some (.inl 0), none]) ((hp 46).trans rfl) rfl ?_
    exact H
theorem w_M_laysStands_47 {scr : Nat × (Nat → Int)} {d : Nat} {h : am_H} {Q : Option am_V → am_H → Prop} {x1 x2 : Int} (hs : am_sc scr) (hw : wf h) (H : (¬ (x2 < 7) → (∀ y1 : Int, y1 = am_w (x1 + 1) → (am_R (am_prog scr) (d + 1) f_M_laysStands 37 [some (.inr (.inr ((109 : Nat) : Int))), some (.inl y1), none, none] [] h Q))) ∧ (x2 < 7 → ((0 ≤ x1 ∧ x1 < 360) ∧ (am_R (am_prog scr) d f_M_whyBeat 0 [some (.inr (.inr ((109 : Nat) : Int))), some (.inl (h.2.2.2 119 x1.toNat)), some (.inr (.inl x2)), none] [] h (fun v g3 => ∃ r4 : Int, v = some (.inl r4) ∧ wf g3 ∧ ((¬ (r4 = 0) → ((0 ≤ x1 ∧ x1 < 360) ∧ (((0 ≤ (am_w ((am_w (7 * (g3.2.2.2 119 x1.toNat))) + x2)) ∧ (am_w ((am_w (7 * (g3.2.2.2 119 x1.toNat))) + x2)) < 2520)) ∧ (∀ h7 : am_H, h7 = am_put g3 120 ((am_w ((am_w (7 * (g3.2.2.2 119 x1.toNat))) + x2)).toNat) (-1) → ((((-1) : Int) = (-1) → (∀ y8 : Int, y8 = am_w (x2 + 1) → (am_R (am_prog scr) (d + 1) f_M_laysStands 47 [some (.inr (.inr ((109 : Nat) : Int))), some (.inl x1), some (.inl y8), none] [] h7 Q))) ∧ (¬ (((-1) : Int) = (-1)) → (am_R (am_prog scr) d f_M_adds 0 [some (.inr (.inr ((109 : Nat) : Int))), some (.inl (-1))] [] h7 (fun v g9 => v = none ∧ wf g9 ∧ (∀ y10 : Int, y10 = am_w (x2 + 1) → (am_R (am_prog scr) (d + 1) f_M_laysStands 47 [some (.inr (.inr ((109 : Nat) : Int))), some (.inl x1), some (.inl y10), none] [] g9 Q)))))))))) ∧ (r4 = 0 → ((0 ≤ x1 ∧ x1 < 360) ∧ (am_R (am_prog scr) d f_M_beatTo 0 [some (.inr (.inr ((109 : Nat) : Int))), some (.inl (g3.2.2.2 119 x1.toNat)), some (.inl (am_w (x2 - 1))), some (.inl (g3.2.2.2 110 28)), none, none, none] [] g3 (fun v g13 => ∃ r14 : Int, v = some (.inl r14) ∧ wf g13 ∧ ((0 ≤ x1 ∧ x1 < 360) ∧ (((0 ≤ (am_w ((am_w (7 * (g13.2.2.2 119 x1.toNat))) + x2)) ∧ (am_w ((am_w (7 * (g13.2.2.2 119 x1.toNat))) + x2)) < 2520)) ∧ (∀ h17 : am_H, h17 = am_put g13 120 ((am_w ((am_w (7 * (g13.2.2.2 119 x1.toNat))) + x2)).toNat) r14 → ((r14 = (-1) → (∀ y18 : Int, y18 = am_w (x2 + 1) → (am_R (am_prog scr) (d + 1) f_M_laysStands 47 [some (.inr (.inr ((109 : Nat) : Int))), some (.inl x1), some (.inl y18), none] [] h17 Q))) ∧ (¬ (r14 = (-1)) → (am_R (am_prog scr) d f_M_adds 0 [some (.inr (.inr ((109 : Nat) : Int))), some (.inl r14)] [] h17 (fun v g19 => v = none ∧ wf g19 ∧ (∀ y20 : Int, y20 = am_w (x2 + 1) → (am_R (am_prog scr) (d + 1) f_M_laysStands 47 [some (.inr (.inr ((109 : Nat) : Int))), some (.inl x1), some (.inl y20), none] [] g19 Q))))))))))))))))))) : am_R (am_prog scr) (d + 1) f_M_laysStands 47 [some (.inr (.inr ((109 : Nat) : Int))), some (.inl x1), some (.inl x2), none] [] h Q := by
  have hp : ∀ k, (am_prog scr).1 f_M_laysStands k = c_M_laysStands k := fun _ => rfl
  refine am_R.next ((hp 47).trans rfl) rfl ?_
  refine am_R.next ((hp 48).trans rfl) rfl ?_
  refine r_ic ((hp 50).trans rfl) (fun c23 => ?_) (fun c23 => ?_)
  · have H := H.1 c23
    obtain ⟨y1, ey1⟩ : ∃ z : Int, z = am_w (x1 + 1) := ⟨_, rfl⟩
    have H := H y1 ey1
    refine am_R.next (lv' := [some (.inr (.inr ((109 : Nat) : Int))), some (.inl y1), some (.inl x2), none]) (st' := []) (h' := h) (pc' := 129) ((hp 126).trans rfl) (by rw [ey1]; rfl) ?_
    refine am_R.next ((hp 129).trans rfl) rfl ?_
    exact r_le hs in_81 (le_k (le_k (le_d (le_k le_n)))) H
  · have H := H.2 (Decidable.not_not.mp c23)
    refine am_R.next ((hp 53).trans rfl) rfl ?_
    refine am_R.next ((hp 54).trans rfl) rfl ?_
    refine r_getR ((hp 55).trans rfl) (hw.o (i := 109) (by decide) rfl) (hw.r wr_109_24) ?_
    refine am_R.next ((hp 58).trans rfl) rfl ?_
    obtain ⟨c2, H⟩ := H
    refine r_iald ((hp 59).trans rfl) (hw.a (i := 119) (by decide) rfl c2.1 c2.2) ?_
    refine am_R.next ((hp 60).trans rfl) rfl ?_
    refine am_R.next ((hp 61).trans rfl) rfl ?_
    refine r_cv (bs := [.inl (h.2.2.2 119 x1.toNat), .inr (.inl x2)]) (st' := []) ((hp 62).trans rfl) (hw.o (i := 109) (by decide) rfl) rfl rfl (Nat.le_of_ble_eq_true rfl) (Nat.le_of_ble_eq_true rfl) (am_R.post H (fun v g3 hq => ?_))
    obtain ⟨r4, rfl, hw, H⟩ := hq
    change am_R _ _ _ _ _ [.inl r4] _ _
    refine r_if ((hp 65).trans rfl) (fun c22 => ?_) (fun c22 => ?_)
    · have H := H.1 c22
      refine am_R.next ((hp 91).trans rfl) rfl ?_
      refine am_R.next (lv' := [some (.inr (.inr ((109 : Nat) : Int))), some (.inl x1), some (.inl x2), some (.inl (-1))]) ((hp 92).trans rfl) rfl ?_
      refine am_R.next ((hp 93).trans rfl) rfl ?_
      refine r_getR ((hp 94).trans rfl) (hw.o (i := 109) (by decide) rfl) (hw.r wr_109_25) ?_
      refine am_R.next ((hp 97).trans rfl) rfl ?_
      refine am_R.next ((hp 99).trans rfl) rfl ?_
      refine r_getR ((hp 100).trans rfl) (hw.o (i := 109) (by decide) rfl) (hw.r wr_109_24) ?_
      refine am_R.next ((hp 103).trans rfl) rfl ?_
      obtain ⟨c5, H⟩ := H
      refine r_iald ((hp 104).trans rfl) (hw.a (i := 119) (by decide) rfl c5.1 c5.2) ?_
      refine am_R.next ((hp 105).trans rfl) rfl ?_
      refine am_R.next ((hp 106).trans rfl) rfl ?_
      refine am_R.next ((hp 107).trans rfl) rfl ?_
      refine am_R.next ((hp 108).trans rfl) rfl ?_
      obtain ⟨c6, H⟩ := H
      obtain ⟨h7, eh7⟩ : ∃ z : am_H, z = am_put g3 120 ((am_w ((am_w (7 * (g3.2.2.2 119 x1.toNat))) + x2)).toNat) (-1) := ⟨_, rfl⟩
      have H := H h7 eh7
      refine r_iast ((hp 109).trans rfl) (hw.a (i := 120) (by decide) rfl c6.1 c6.2) ?_
      have hw : wf h7 := by rw [eh7]; exact hw.pa na_120
      change am_R _ _ _ _ _ _ (am_put g3 120 ((am_w ((am_w (7 * (g3.2.2.2 119 x1.toNat))) + x2)).toNat) (-1)) _
      rw [← eh7]
      refine am_R.next ((hp 110).trans rfl) rfl ?_
      refine am_R.next ((hp 111).trans rfl) rfl ?_
      refine r_ic ((hp 112).trans rfl) (fun c11 => ?_) (fun c11 => ?_)
      · have H := H.1 c11
        obtain ⟨y8, ey8⟩ : ∃ z : Int, z = am_w (x2 + 1) := ⟨_, rfl⟩
        have H := H y8 ey8
        refine am_R.next (lv' := [some (.inr (.inr ((109 : Nat) : Int))), some (.inl x1), some (.inl y8), some (.inl (-1))]) (st' := []) (h' := h7) (pc' := 123) ((hp 120).trans rfl) (by rw [ey8]; rfl) ?_
        refine am_R.next ((hp 123).trans rfl) rfl ?_
        exact r_le hs in_81 (le_k (le_k (le_k (le_d le_n)))) H
      · have H := H.2 c11
        refine am_R.next ((hp 115).trans rfl) rfl ?_
        refine am_R.next ((hp 116).trans rfl) rfl ?_
        refine r_cv (bs := [.inl (-1)]) (st' := []) ((hp 117).trans rfl) (hw.o (i := 109) (by decide) rfl) rfl rfl (Nat.le_of_ble_eq_true rfl) (Nat.le_of_ble_eq_true rfl) (am_R.post H (fun v g9 hq => ?_))
        obtain ⟨rfl, hw, H⟩ := hq
        change am_R _ _ _ _ _ [] _ _
        obtain ⟨y10, ey10⟩ : ∃ z : Int, z = am_w (x2 + 1) := ⟨_, rfl⟩
        have H := H y10 ey10
        refine am_R.next (lv' := [some (.inr (.inr ((109 : Nat) : Int))), some (.inl x1), some (.inl y10), some (.inl (-1))]) (st' := []) (h' := g9) (pc' := 123) ((hp 120).trans rfl) (by rw [ey10]; rfl) ?_
        refine am_R.next ((hp 123).trans rfl) rfl ?_
        exact r_le hs in_81 (le_k (le_k (le_k (le_d le_n)))) H
    · have H := H.2 (Decidable.not_not.mp c22)
      refine am_R.next ((hp 68).trans rfl) rfl ?_
      refine am_R.next ((hp 69).trans rfl) rfl ?_
      refine r_getR ((hp 70).trans rfl) (hw.o (i := 109) (by decide) rfl) (hw.r wr_109_24) ?_
      refine am_R.next ((hp 73).trans rfl) rfl ?_
      obtain ⟨c12, H⟩ := H
      refine r_iald ((hp 74).trans rfl) (hw.a (i := 119) (by decide) rfl c12.1 c12.2) ?_
      refine am_R.next ((hp 75).trans rfl) rfl ?_
      refine am_R.next ((hp 76).trans rfl) rfl ?_
      refine am_R.next ((hp 77).trans rfl) rfl ?_
      refine am_R.next ((hp 78).trans rfl) rfl ?_
      refine r_getR ((hp 79).trans rfl) (hw.o (i := 109) (by decide) rfl) (hw.r wr_109_1) ?_
      refine am_R.next ((hp 82).trans rfl) rfl ?_
      refine r_iald ((hp 84).trans rfl) (hw.a (i := 110) (by decide) rfl (by decide) (by decide)) ?_
      refine r_cv (bs := [.inl (g3.2.2.2 119 x1.toNat), .inl (am_w (x2 - 1)), .inl (g3.2.2.2 110 28)]) (st' := []) ((hp 85).trans rfl) (hw.o (i := 109) (by decide) rfl) rfl rfl (Nat.le_of_ble_eq_true rfl) (Nat.le_of_ble_eq_true rfl) (am_R.post H (fun v g13 hq => ?_))
      obtain ⟨r14, rfl, hw, H⟩ := hq
      change am_R _ _ _ _ _ [.inl r14] _ _
      refine am_R.next ((hp 88).trans rfl) rfl ?_
      refine am_R.next (lv' := [some (.inr (.inr ((109 : Nat) : Int))), some (.inl x1), some (.inl x2), some (.inl r14)]) ((hp 92).trans rfl) rfl ?_
      refine am_R.next ((hp 93).trans rfl) rfl ?_
      refine r_getR ((hp 94).trans rfl) (hw.o (i := 109) (by decide) rfl) (hw.r wr_109_25) ?_
      refine am_R.next ((hp 97).trans rfl) rfl ?_
      refine am_R.next ((hp 99).trans rfl) rfl ?_
      refine r_getR ((hp 100).trans rfl) (hw.o (i := 109) (by decide) rfl) (hw.r wr_109_24) ?_
      refine am_R.next ((hp 103).trans rfl) rfl ?_
      obtain ⟨c15, H⟩ := H
      refine r_iald ((hp 104).trans rfl) (hw.a (i := 119) (by decide) rfl c15.1 c15.2) ?_
      refine am_R.next ((hp 105).trans rfl) rfl ?_
      refine am_R.next ((hp 106).trans rfl) rfl ?_
      refine am_R.next ((hp 107).trans rfl) rfl ?_
      refine am_R.next ((hp 108).trans rfl) rfl ?_
      obtain ⟨c16, H⟩ := H
      obtain ⟨h17, eh17⟩ : ∃ z : am_H, z = am_put g13 120 ((am_w ((am_w (7 * (g13.2.2.2 119 x1.toNat))) + x2)).toNat) r14 := ⟨_, rfl⟩
      have H := H h17 eh17
      refine r_iast ((hp 109).trans rfl) (hw.a (i := 120) (by decide) rfl c16.1 c16.2) ?_
      have hw : wf h17 := by rw [eh17]; exact hw.pa na_120
      change am_R _ _ _ _ _ _ (am_put g13 120 ((am_w ((am_w (7 * (g13.2.2.2 119 x1.toNat))) + x2)).toNat) r14) _
      rw [← eh17]
      refine am_R.next ((hp 110).trans rfl) rfl ?_
      refine am_R.next ((hp 111).trans rfl) rfl ?_
      refine r_ic ((hp 112).trans rfl) (fun c21 => ?_) (fun c21 => ?_)
      · have H := H.1 c21
        obtain ⟨y18, ey18⟩ : ∃ z : Int, z = am_w (x2 + 1) := ⟨_, rfl⟩
        have H := H y18 ey18
        refine am_R.next (lv' := [some (.inr (.inr ((109 : Nat) : Int))), some (.inl x1), some (.inl y18), some (.inl r14)]) (st' := []) (h' := h17) (pc' := 123) ((hp 120).trans rfl) (by rw [ey18]; rfl) ?_
        refine am_R.next ((hp 123).trans rfl) rfl ?_
        exact r_le hs in_81 (le_k (le_k (le_k (le_d le_n)))) H
      · have H := H.2 c21
        refine am_R.next ((hp 115).trans rfl) rfl ?_
        refine am_R.next ((hp 116).trans rfl) rfl ?_
        refine r_cv (bs := [.inl r14]) (st' := []) ((hp 117).trans rfl) (hw.o (i := 109) (by decide) rfl) rfl rfl (Nat.le_of_ble_eq_true rfl) (Nat.le_of_ble_eq_true rfl) (am_R.post H (fun v g19 hq => ?_))
        obtain ⟨rfl, hw, H⟩ := hq
        change am_R _ _ _ _ _ [] _ _
        obtain ⟨y20, ey20⟩ : ∃ z : Int, z = am_w (x2 + 1) := ⟨_, rfl⟩
        have H := H y20 ey20
        refine am_R.next (lv' := [some (.inr (.inr ((109 : Nat) : Int))), some (.inl x1), some (.inl y20), some (.inl r14)]) (st' := []) (h' := g19) (pc' := 123) ((hp 120).trans rfl) (by rw [ey20]; rfl) ?_
        refine am_R.next ((hp 123).trans rfl) rfl ?_
        exact r_le hs in_81 (le_k (le_k (le_k (le_d le_n)))) H
theorem w_M_isSo_0 {scr : Nat × (Nat → Int)} {d : Nat} {h : am_H} {Q : Option am_V → am_H → Prop} {x1 x2 : Int} (hs : am_sc scr) (hw : wf h) (H : (¬ (x2 = 0) → ((¬ (x2 = 1) → (am_R (am_prog scr) d f_M_isOver 0 [some (.inr (.inr ((109 : Nat) : Int))), some (.inl x1)] [] h (fun v g1 => ∃ r2 : Int, v = some (.inl r2) ∧ wf g1 ∧ ((¬ (r2 = 0) → (Q (some (.inl 0)) g1)) ∧ (r2 = 0 → (Q (some (.inl 1)) g1)))))) ∧ (x2 = 1 → (am_R (am_prog scr) d f_M_hasEnded 0 [some (.inr (.inr ((109 : Nat) : Int))), some (.inl x1)] [] h (fun v g4 => ∃ r5 : Int, v = some (.inl r5) ∧ wf g4 ∧ ((¬ (r5 = 0) → (Q (some (.inl 0)) g4)) ∧ (r5 = 0 → ((¬ ((x1.tmod 2) = 1) → (Q (some (.inl 0)) g4)) ∧ ((x1.tmod 2) = 1 → (Q (some (.inl 1)) g4)))))))))) ∧ (x2 = 0 → (am_R (am_prog scr) d f_M_hasEnded 0 [some (.inr (.inr ((109 : Nat) : Int))), some (.inl x1)] [] h (fun v g9 => ∃ r10 : Int, v = some (.inl r10) ∧ wf g9 ∧ ((r10 = 0 ∨ r10 = 1) ∧ Q (some (.inl r10)) g9))))) : am_R (am_prog scr) (d + 1) f_M_isSo 0 [some (.inr (.inr ((109 : Nat) : Int))), some (.inl x1), some (.inl x2)] [] h Q := by
  have hp : ∀ k, (am_prog scr).1 f_M_isSo k = c_M_isSo k := fun _ => rfl
  refine am_R.next ((hp 0).trans rfl) rfl ?_
  refine r_if ((hp 1).trans rfl) (fun c12 => ?_) (fun c12 => ?_)
  · have H := H.1 c12
    refine am_R.next ((hp 12).trans rfl) rfl ?_
    refine am_R.next ((hp 13).trans rfl) rfl ?_
    refine r_ic ((hp 14).trans rfl) (fun c8 => ?_) (fun c8 => ?_)
    · have H := H.1 c8
      refine am_R.next ((hp 40).trans rfl) rfl ?_
      refine am_R.next ((hp 41).trans rfl) rfl ?_
      refine r_cv (bs := [.inl x1]) (st' := []) ((hp 42).trans rfl) (hw.o (i := 109) (by decide) rfl) rfl rfl (Nat.le_of_ble_eq_true rfl) (Nat.le_of_ble_eq_true rfl) (am_R.post H (fun v g1 hq => ?_))
      obtain ⟨r2, rfl, hw, H⟩ := hq
      change am_R _ _ _ _ _ [.inl r2] _ _
      refine r_if ((hp 45).trans rfl) (fun c3 => ?_) (fun c3 => ?_)
      · have H := H.1 c3
        refine am_R.next ((hp 52).trans rfl) rfl ?_
        exact r_zret ((hp 53).trans rfl) (Or.inl rfl) H
      · have H := H.2 (Decidable.not_not.mp c3)
        refine am_R.next ((hp 48).trans rfl) rfl ?_
        refine am_R.next ((hp 49).trans rfl) rfl ?_
        exact r_zret ((hp 53).trans rfl) (Or.inr rfl) H
    · have H := H.2 (Decidable.not_not.mp c8)
      refine am_R.next ((hp 17).trans rfl) rfl ?_
      refine am_R.next ((hp 18).trans rfl) rfl ?_
      refine r_cv (bs := [.inl x1]) (st' := []) ((hp 19).trans rfl) (hw.o (i := 109) (by decide) rfl) rfl rfl (Nat.le_of_ble_eq_true rfl) (Nat.le_of_ble_eq_true rfl) (am_R.post H (fun v g4 hq => ?_))
      obtain ⟨r5, rfl, hw, H⟩ := hq
      change am_R _ _ _ _ _ [.inl r5] _ _
      refine r_if ((hp 22).trans rfl) (fun c7 => ?_) (fun c7 => ?_)
      · have H := H.1 c7
        refine am_R.next ((hp 36).trans rfl) rfl ?_
        refine am_R.next ((hp 37).trans rfl) rfl ?_
        exact r_zret ((hp 53).trans rfl) (Or.inl rfl) H
      · have H := H.2 (Decidable.not_not.mp c7)
        refine am_R.next ((hp 25).trans rfl) rfl ?_
        refine am_R.next ((hp 26).trans rfl) rfl ?_
        refine r_i2z ((hp 27).trans rfl) (by decide) ?_
        refine am_R.next ((hp 28).trans rfl) rfl ?_
        refine r_ic ((hp 29).trans rfl) (fun c6 => ?_) (fun c6 => ?_)
        · have H := H.1 c6
          refine am_R.next ((hp 36).trans rfl) rfl ?_
          refine am_R.next ((hp 37).trans rfl) rfl ?_
          exact r_zret ((hp 53).trans rfl) (Or.inl rfl) H
        · have H := H.2 (Decidable.not_not.mp c6)
          refine am_R.next ((hp 32).trans rfl) rfl ?_
          refine am_R.next ((hp 33).trans rfl) rfl ?_
          exact r_zret ((hp 53).trans rfl) (Or.inr rfl) H
  · have H := H.2 (Decidable.not_not.mp c12)
    refine am_R.next ((hp 4).trans rfl) rfl ?_
    refine am_R.next ((hp 5).trans rfl) rfl ?_
    refine r_cv (bs := [.inl x1]) (st' := []) ((hp 6).trans rfl) (hw.o (i := 109) (by decide) rfl) rfl rfl (Nat.le_of_ble_eq_true rfl) (Nat.le_of_ble_eq_true rfl) (am_R.post H (fun v g9 hq => ?_))
    obtain ⟨r10, rfl, hw, H⟩ := hq
    change am_R _ _ _ _ _ [.inl r10] _ _
    refine am_R.next ((hp 9).trans rfl) rfl ?_
    obtain ⟨c11, H⟩ := H
    exact r_zret ((hp 53).trans rfl) c11 H
theorem w_M_farBy_0 {scr : Nat × (Nat → Int)} {d : Nat} {h : am_H} {Q : Option am_V → am_H → Prop} {x1 x2 : Int} (hs : am_sc scr) (hw : wf h) (H : (0 ≤ (am_w ((am_w (7 * x1)) + x2)) ∧ (am_w ((am_w (7 * x1)) + x2)) < 2520) ∧ (∀ y2 : Int, y2 = h.2.2.2 120 ((am_w ((am_w (7 * x1)) + x2)).toNat) → ((y2 = (-1) → (Q (some (.inl 268435456)) h)) ∧ (¬ (y2 = (-1)) → ((0 ≤ y2 ∧ y2 < 360) ∧ ((¬ ((h.2.2.2 121 y2.toNat) = 268435456) → ((0 ≤ y2 ∧ y2 < 360) ∧ (Q (some (.inl (am_w ((h.2.2.2 121 y2.toNat) + 1)))) h))) ∧ ((h.2.2.2 121 y2.toNat) = 268435456 → (Q (some (.inl 268435456)) h)))))))) : am_R (am_prog scr) d f_M_farBy 0 [some (.inr (.inr ((109 : Nat) : Int))), some (.inl x1), some (.inl x2), none] [] h Q := by
  have hp : ∀ k, (am_prog scr).1 f_M_farBy k = c_M_farBy k := fun _ => rfl
  refine am_R.next ((hp 0).trans rfl) rfl ?_
  refine r_getR ((hp 1).trans rfl) (hw.o (i := 109) (by decide) rfl) (hw.r wr_109_25) ?_
  refine am_R.next ((hp 4).trans rfl) rfl ?_
  refine am_R.next ((hp 6).trans rfl) rfl ?_
  refine am_R.next ((hp 7).trans rfl) rfl ?_
  refine am_R.next ((hp 8).trans rfl) rfl ?_
  refine am_R.next ((hp 9).trans rfl) rfl ?_
  obtain ⟨c1, H⟩ := H
  refine r_iald ((hp 10).trans rfl) (hw.a (i := 120) (by decide) rfl c1.1 c1.2) ?_
  obtain ⟨y2, ey2⟩ : ∃ z : Int, z = h.2.2.2 120 ((am_w ((am_w (7 * x1)) + x2)).toNat) := ⟨_, rfl⟩
  have H := H y2 ey2
  refine am_R.next (lv' := [some (.inr (.inr ((109 : Nat) : Int))), some (.inl x1), some (.inl x2), some (.inl y2)]) (st' := []) (h' := h) (pc' := 12) ((hp 11).trans rfl) (by rw [ey2]; rfl) ?_
  refine am_R.next ((hp 12).trans rfl) rfl ?_
  refine am_R.next ((hp 13).trans rfl) rfl ?_
  refine r_ic ((hp 14).trans rfl) (fun c6 => ?_) (fun c6 => ?_)
  · have H := H.1 c6
    refine am_R.next ((hp 29).trans rfl) rfl ?_
    refine am_R.next ((hp 32).trans rfl) rfl ?_
    exact am_R.ret ((hp 43).trans rfl) rfl H
  · have H := H.2 c6
    refine am_R.next ((hp 17).trans rfl) rfl ?_
    refine r_getR ((hp 18).trans rfl) (hw.o (i := 109) (by decide) rfl) (hw.r wr_109_26) ?_
    refine am_R.next ((hp 21).trans rfl) rfl ?_
    obtain ⟨c3, H⟩ := H
    refine r_iald ((hp 22).trans rfl) (hw.a (i := 121) (by decide) rfl c3.1 c3.2) ?_
    refine am_R.next ((hp 23).trans rfl) rfl ?_
    refine r_ic ((hp 26).trans rfl) (fun c5 => ?_) (fun c5 => ?_)
    · have H := H.1 c5
      refine am_R.next ((hp 35).trans rfl) rfl ?_
      refine r_getR ((hp 36).trans rfl) (hw.o (i := 109) (by decide) rfl) (hw.r wr_109_26) ?_
      refine am_R.next ((hp 39).trans rfl) rfl ?_
      obtain ⟨c4, H⟩ := H
      refine r_iald ((hp 40).trans rfl) (hw.a (i := 121) (by decide) rfl c4.1 c4.2) ?_
      refine am_R.next ((hp 41).trans rfl) rfl ?_
      refine am_R.next ((hp 42).trans rfl) rfl ?_
      exact am_R.ret ((hp 43).trans rfl) rfl H
    · have H := H.2 (Decidable.not_not.mp c5)
      refine am_R.next ((hp 29).trans rfl) rfl ?_
      refine am_R.next ((hp 32).trans rfl) rfl ?_
      exact am_R.ret ((hp 43).trans rfl) rfl H
theorem w_M_laysFar_0 {scr : Nat × (Nat → Int)} {d : Nat} {h : am_H} {Q : Option am_V → am_H → Prop} {x1 : Int} (hs : am_sc scr) (hw : wf h) (H : am_R (am_prog scr) d f_M_laysStands 0 [some (.inr (.inr ((109 : Nat) : Int))), none, none, none] [] h (fun v g1 => v = none ∧ wf g1 ∧ (am_R (am_prog scr) (d + 1) f_M_laysFar 6 [some (.inr (.inr ((109 : Nat) : Int))), some (.inl x1), some (.inl 0), none, none] [] g1 Q))) : am_R (am_prog scr) (d + 1) f_M_laysFar 0 [some (.inr (.inr ((109 : Nat) : Int))), some (.inl x1), none, none, none] [] h Q := by
  have hp : ∀ k, (am_prog scr).1 f_M_laysFar k = c_M_laysFar k := fun _ => rfl
  refine am_R.next ((hp 0).trans rfl) rfl ?_
  refine r_cv (bs := []) (st' := []) ((hp 1).trans rfl) (hw.o (i := 109) (by decide) rfl) rfl rfl (Nat.le_of_ble_eq_true rfl) (Nat.le_of_ble_eq_true rfl) (am_R.post H (fun v g1 hq => ?_))
  obtain ⟨rfl, hw, H⟩ := hq
  change am_R _ _ _ _ _ [] _ _
  refine am_R.next ((hp 4).trans rfl) rfl ?_
  refine am_R.next (lv' := [some (.inr (.inr ((109 : Nat) : Int))), some (.inl x1), some (.inl 0), none, none]) ((hp 5).trans rfl) rfl ?_
  exact H
theorem w_M_laysFar_6 {scr : Nat × (Nat → Int)} {d : Nat} {h : am_H} {Q : Option am_V → am_H → Prop} {x1 x2 : Int} (hs : am_sc scr) (hw : wf h) (H : (¬ (x2 < (h.2.2.2 109 29)) → (am_R (am_prog scr) (d + 1) f_M_laysFar 54 [some (.inr (.inr ((109 : Nat) : Int))), some (.inl x1), some (.inl 1), none, none] [] h Q)) ∧ (x2 < (h.2.2.2 109 29) → ((0 ≤ x2 ∧ x2 < 360) ∧ ((0 ≤ x2 ∧ x2 < 360) ∧ (am_R (am_prog scr) d f_M_isSo 0 [some (.inr (.inr ((109 : Nat) : Int))), some (.inl (h.2.2.2 119 x2.toNat)), some (.inl x1)] [] h (fun v g3 => ∃ r4 : Int, v = some (.inl r4) ∧ wf g3 ∧ ((r4 = 0 → (((0 ≤ (h.2.2.2 119 x2.toNat) ∧ (h.2.2.2 119 x2.toNat) < 360)) ∧ (∀ h6 : am_H, h6 = am_put g3 121 ((h.2.2.2 119 x2.toNat).toNat) 268435456 → (∀ y7 : Int, y7 = am_w (x2 + 1) → (am_R (am_prog scr) (d + 1) f_M_laysFar 6 [some (.inr (.inr ((109 : Nat) : Int))), some (.inl x1), some (.inl y7), none, none] [] h6 Q))))) ∧ (¬ (r4 = 0) → (((0 ≤ (h.2.2.2 119 x2.toNat) ∧ (h.2.2.2 119 x2.toNat) < 360)) ∧ (∀ h9 : am_H, h9 = am_put g3 121 ((h.2.2.2 119 x2.toNat).toNat) 0 → (∀ y10 : Int, y10 = am_w (x2 + 1) → (am_R (am_prog scr) (d + 1) f_M_laysFar 6 [some (.inr (.inr ((109 : Nat) : Int))), some (.inl x1), some (.inl y10), none, none] [] h9 Q)))))))))))) : am_R (am_prog scr) (d + 1) f_M_laysFar 6 [some (.inr (.inr ((109 : Nat) : Int))), some (.inl x1), some (.inl x2), none, none] [] h Q := by
  have hp : ∀ k, (am_prog scr).1 f_M_laysFar k = c_M_laysFar k := fun _ => rfl
  refine am_R.next ((hp 6).trans rfl) rfl ?_
  refine am_R.next ((hp 7).trans rfl) rfl ?_
  refine r_getI ((hp 8).trans rfl) (hw.o (i := 109) (by decide) rfl) ?_
  refine r_ic ((hp 11).trans rfl) (fun c12 => ?_) (fun c12 => ?_)
  · have H := H.1 c12
    refine am_R.next ((hp 52).trans rfl) rfl ?_
    refine am_R.next (lv' := [some (.inr (.inr ((109 : Nat) : Int))), some (.inl x1), some (.inl 1), none, none]) ((hp 53).trans rfl) rfl ?_
    exact H
  · have H := H.2 (Decidable.not_not.mp c12)
    refine am_R.next ((hp 14).trans rfl) rfl ?_
    refine r_getR ((hp 15).trans rfl) (hw.o (i := 109) (by decide) rfl) (hw.r wr_109_26) ?_
    refine am_R.next ((hp 18).trans rfl) rfl ?_
    refine r_getR ((hp 19).trans rfl) (hw.o (i := 109) (by decide) rfl) (hw.r wr_109_24) ?_
    refine am_R.next ((hp 22).trans rfl) rfl ?_
    obtain ⟨c1, H⟩ := H
    refine r_iald ((hp 23).trans rfl) (hw.a (i := 119) (by decide) rfl c1.1 c1.2) ?_
    refine am_R.next ((hp 24).trans rfl) rfl ?_
    refine am_R.next ((hp 25).trans rfl) rfl ?_
    refine r_getR ((hp 26).trans rfl) (hw.o (i := 109) (by decide) rfl) (hw.r wr_109_24) ?_
    refine am_R.next ((hp 29).trans rfl) rfl ?_
    obtain ⟨c2, H⟩ := H
    refine r_iald ((hp 30).trans rfl) (hw.a (i := 119) (by decide) rfl c2.1 c2.2) ?_
    refine am_R.next ((hp 31).trans rfl) rfl ?_
    refine r_cv (bs := [.inl (h.2.2.2 119 x2.toNat), .inl x1]) (st' := [.inl (h.2.2.2 119 x2.toNat), .inr (.inr ((121 : Nat) : Int))]) ((hp 32).trans rfl) (hw.o (i := 109) (by decide) rfl) rfl rfl (Nat.le_of_ble_eq_true rfl) (Nat.le_of_ble_eq_true rfl) (am_R.post H (fun v g3 hq => ?_))
    obtain ⟨r4, rfl, hw, H⟩ := hq
    change am_R _ _ _ _ _ [.inl r4, .inl (h.2.2.2 119 x2.toNat), .inr (.inr ((121 : Nat) : Int))] _ _
    refine r_if ((hp 35).trans rfl) (fun c11 => ?_) (fun c11 => ?_)
    · have H := H.1 c11
      refine am_R.next ((hp 42).trans rfl) rfl ?_
      obtain ⟨c5, H⟩ := H
      obtain ⟨h6, eh6⟩ : ∃ z : am_H, z = am_put g3 121 ((h.2.2.2 119 x2.toNat).toNat) 268435456 := ⟨_, rfl⟩
      have H := H h6 eh6
      refine r_iast ((hp 45).trans rfl) (hw.a (i := 121) (by decide) rfl c5.1 c5.2) ?_
      have hw : wf h6 := by rw [eh6]; exact hw.pa na_121
      change am_R _ _ _ _ _ _ (am_put g3 121 ((h.2.2.2 119 x2.toNat).toNat) 268435456) _
      rw [← eh6]
      obtain ⟨y7, ey7⟩ : ∃ z : Int, z = am_w (x2 + 1) := ⟨_, rfl⟩
      have H := H y7 ey7
      refine am_R.next (lv' := [some (.inr (.inr ((109 : Nat) : Int))), some (.inl x1), some (.inl y7), none, none]) (st' := []) (h' := h6) (pc' := 49) ((hp 46).trans rfl) (by rw [ey7]; rfl) ?_
      refine am_R.next ((hp 49).trans rfl) rfl ?_
      exact H
    · have H := H.2 c11
      refine am_R.next ((hp 38).trans rfl) rfl ?_
      refine am_R.next ((hp 39).trans rfl) rfl ?_
      obtain ⟨c8, H⟩ := H
      obtain ⟨h9, eh9⟩ : ∃ z : am_H, z = am_put g3 121 ((h.2.2.2 119 x2.toNat).toNat) 0 := ⟨_, rfl⟩
      have H := H h9 eh9
      refine r_iast ((hp 45).trans rfl) (hw.a (i := 121) (by decide) rfl c8.1 c8.2) ?_
      have hw : wf h9 := by rw [eh9]; exact hw.pa na_121
      change am_R _ _ _ _ _ _ (am_put g3 121 ((h.2.2.2 119 x2.toNat).toNat) 0) _
      rw [← eh9]
      obtain ⟨y10, ey10⟩ : ∃ z : Int, z = am_w (x2 + 1) := ⟨_, rfl⟩
      have H := H y10 ey10
      refine am_R.next (lv' := [some (.inr (.inr ((109 : Nat) : Int))), some (.inl x1), some (.inl y10), none, none]) (st' := []) (h' := h9) (pc' := 49) ((hp 46).trans rfl) (by rw [ey10]; rfl) ?_
      refine am_R.next ((hp 49).trans rfl) rfl ?_
      exact H
theorem w_M_laysFar_54 {scr : Nat × (Nat → Int)} {d : Nat} {h : am_H} {Q : Option am_V → am_H → Prop} {x1 x2 : Int} (hs : am_sc scr) (hw : wf h) (H : (x2 = 0 → (am_R (am_prog scr) d f_M_standNow 0 [some (.inr (.inr ((109 : Nat) : Int)))] [] h (fun v g1 => ∃ r2 : Int, v = some (.inl r2) ∧ wf g1 ∧ ((0 ≤ r2 ∧ r2 < 360) ∧ (Q (some (.inl (g1.2.2.2 121 r2.toNat))) g1))))) ∧ (¬ (x2 = 0) → (∀ y4 : Int, y4 = am_w ((h.2.2.2 109 29) - 1) → (am_R (am_prog scr) (d + 1) f_M_laysFar 67 [some (.inr (.inr ((109 : Nat) : Int))), some (.inl x1), some (.inl 0), some (.inl y4), none] [] h Q)))) : am_R (am_prog scr) (d + 1) f_M_laysFar 54 [some (.inr (.inr ((109 : Nat) : Int))), some (.inl x1), some (.inl x2), none, none] [] h Q := by
  have hp : ∀ k, (am_prog scr).1 f_M_laysFar k = c_M_laysFar k := fun _ => rfl
  refine am_R.next ((hp 54).trans rfl) rfl ?_
  refine r_if ((hp 55).trans rfl) (fun c5 => ?_) (fun c5 => ?_)
  · have H := H.1 c5
    refine am_R.next ((hp 164).trans rfl) rfl ?_
    refine r_getR ((hp 165).trans rfl) (hw.o (i := 109) (by decide) rfl) (hw.r wr_109_26) ?_
    refine am_R.next ((hp 168).trans rfl) rfl ?_
    refine r_cv (bs := []) (st' := [.inr (.inr ((121 : Nat) : Int))]) ((hp 169).trans rfl) (hw.o (i := 109) (by decide) rfl) rfl rfl (Nat.le_of_ble_eq_true rfl) (Nat.le_of_ble_eq_true rfl) (am_R.post H (fun v g1 hq => ?_))
    obtain ⟨r2, rfl, hw, H⟩ := hq
    change am_R _ _ _ _ _ [.inl r2, .inr (.inr ((121 : Nat) : Int))] _ _
    obtain ⟨c3, H⟩ := H
    refine r_iald ((hp 172).trans rfl) (hw.a (i := 121) (by decide) rfl c3.1 c3.2) ?_
    exact am_R.ret ((hp 173).trans rfl) rfl H
  · have H := H.2 c5
    refine am_R.next ((hp 58).trans rfl) rfl ?_
    refine am_R.next (lv' := [some (.inr (.inr ((109 : Nat) : Int))), some (.inl x1), some (.inl 0), none, none]) ((hp 59).trans rfl) rfl ?_
    refine am_R.next ((hp 60).trans rfl) rfl ?_
    refine r_getI ((hp 61).trans rfl) (hw.o (i := 109) (by decide) rfl) ?_
    refine am_R.next ((hp 64).trans rfl) rfl ?_
    refine am_R.next ((hp 65).trans rfl) rfl ?_
    obtain ⟨y4, ey4⟩ : ∃ z : Int, z = am_w ((h.2.2.2 109 29) - 1) := ⟨_, rfl⟩
    have H := H y4 ey4
    refine am_R.next (lv' := [some (.inr (.inr ((109 : Nat) : Int))), some (.inl x1), some (.inl 0), some (.inl y4), none]) (st' := []) (h' := h) (pc' := 67) ((hp 66).trans rfl) (by rw [ey4]; rfl) ?_
    exact H
theorem w_M_laysFar_67 {scr : Nat × (Nat → Int)} {d : Nat} {h : am_H} {Q : Option am_V → am_H → Prop} {x1 x2 x3 : Int} (hs : am_sc scr) (hw : wf h) (H : (x3 < 0 → (am_R (am_prog scr) (d + 1) f_M_laysFar 54 [some (.inr (.inr ((109 : Nat) : Int))), some (.inl x1), some (.inl x2), none, none] [] h Q)) ∧ (¬ (x3 < 0) → (am_R (am_prog scr) (d + 1) f_M_laysFar 74 [some (.inr (.inr ((109 : Nat) : Int))), some (.inl x1), some (.inl x2), some (.inl x3), some (.inl 0)] [] h Q))) : am_R (am_prog scr) (d + 1) f_M_laysFar 67 [some (.inr (.inr ((109 : Nat) : Int))), some (.inl x1), some (.inl x2), some (.inl x3), none] [] h Q := by
  have hp : ∀ k, (am_prog scr).1 f_M_laysFar k = c_M_laysFar k := fun _ => rfl
  refine am_R.next ((hp 67).trans rfl) rfl ?_
  refine r_if ((hp 68).trans rfl) (fun c1 => ?_) (fun c1 => ?_)
  · have H := H.1 c1
    refine am_R.next ((hp 161).trans rfl) rfl ?_
    exact r_le hs in_84 (le_k (le_k (le_k (le_d (le_k le_n))))) H
  · have H := H.2 c1
    refine am_R.next ((hp 71).trans rfl) rfl ?_
    refine am_R.next (lv' := [some (.inr (.inr ((109 : Nat) : Int))), some (.inl x1), some (.inl x2), some (.inl x3), some (.inl 0)]) ((hp 72).trans rfl) rfl ?_
    exact H
theorem w_M_laysFar_74 {scr : Nat × (Nat → Int)} {d : Nat} {h : am_H} {Q : Option am_V → am_H → Prop} {x1 x2 x3 x4 : Int} (hs : am_sc scr) (hw : wf h) (H : (¬ (x4 < 7) → (∀ y1 : Int, y1 = am_w (x3 + (-1)) → (am_R (am_prog scr) (d + 1) f_M_laysFar 67 [some (.inr (.inr ((109 : Nat) : Int))), some (.inl x1), some (.inl x2), some (.inl y1), none] [] h Q))) ∧ (x4 < 7 → ((0 ≤ x3 ∧ x3 < 360) ∧ ((0 ≤ (h.2.2.2 119 x3.toNat) ∧ (h.2.2.2 119 x3.toNat) < 360) ∧ (((h.2.2.2 121 ((h.2.2.2 119 x3.toNat).toNat)) ≤ 0 → (∀ y4 : Int, y4 = am_w (x3 + (-1)) → (am_R (am_prog scr) (d + 1) f_M_laysFar 67 [some (.inr (.inr ((109 : Nat) : Int))), some (.inl x1), some (.inl x2), some (.inl y4), none] [] h Q))) ∧ (¬ ((h.2.2.2 121 ((h.2.2.2 119 x3.toNat).toNat)) ≤ 0) → ((0 ≤ x3 ∧ x3 < 360) ∧ (am_R (am_prog scr) d f_M_farBy 0 [some (.inr (.inr ((109 : Nat) : Int))), some (.inl (h.2.2.2 119 x3.toNat)), some (.inl x4), none] [] h (fun v g6 => ∃ r7 : Int, v = some (.inl r7) ∧ wf g6 ∧ ((0 ≤ x3 ∧ x3 < 360) ∧ ((0 ≤ (g6.2.2.2 119 x3.toNat) ∧ (g6.2.2.2 119 x3.toNat) < 360) ∧ ((r7 < (g6.2.2.2 121 ((g6.2.2.2 119 x3.toNat).toNat)) → ((0 ≤ x3 ∧ x3 < 360) ∧ ((0 ≤ x3 ∧ x3 < 360) ∧ (am_R (am_prog scr) d f_M_farBy 0 [some (.inr (.inr ((109 : Nat) : Int))), some (.inl (g6.2.2.2 119 x3.toNat)), some (.inl x4), none] [] g6 (fun v g12 => ∃ r13 : Int, v = some (.inl r13) ∧ wf g12 ∧ (((0 ≤ (g6.2.2.2 119 x3.toNat) ∧ (g6.2.2.2 119 x3.toNat) < 360)) ∧ (∀ h15 : am_H, h15 = am_put g12 121 ((g6.2.2.2 119 x3.toNat).toNat) r13 → (∀ y16 : Int, y16 = am_w (x4 + 1) → (am_R (am_prog scr) (d + 1) f_M_laysFar 74 [some (.inr (.inr ((109 : Nat) : Int))), some (.inl x1), some (.inl 1), some (.inl x3), some (.inl y16)] [] h15 Q))))))))) ∧ (¬ (r7 < (g6.2.2.2 121 ((g6.2.2.2 119 x3.toNat).toNat))) → (∀ y17 : Int, y17 = am_w (x4 + 1) → (am_R (am_prog scr) (d + 1) f_M_laysFar 74 [some (.inr (.inr ((109 : Nat) : Int))), some (.inl x1), some (.inl x2), some (.inl x3), some (.inl y17)] [] g6 Q))))))))))))))) : am_R (am_prog scr) (d + 1) f_M_laysFar 74 [some (.inr (.inr ((109 : Nat) : Int))), some (.inl x1), some (.inl x2), some (.inl x3), some (.inl x4)] [] h Q := by
  have hp : ∀ k, (am_prog scr).1 f_M_laysFar k = c_M_laysFar k := fun _ => rfl
  refine am_R.next ((hp 74).trans rfl) rfl ?_
  refine am_R.next ((hp 76).trans rfl) rfl ?_
  refine r_ic ((hp 78).trans rfl) (fun c20 => ?_) (fun c20 => ?_)
  · have H := H.1 c20
    obtain ⟨y1, ey1⟩ : ∃ z : Int, z = am_w (x3 + (-1)) := ⟨_, rfl⟩
    have H := H y1 ey1
    refine am_R.next (lv' := [some (.inr (.inr ((109 : Nat) : Int))), some (.inl x1), some (.inl x2), some (.inl y1), some (.inl x4)]) (st' := []) (h' := h) (pc' := 158) ((hp 155).trans rfl) (by rw [ey1]; rfl) ?_
    refine am_R.next ((hp 158).trans rfl) rfl ?_
    exact r_le hs in_84 (le_k (le_k (le_k (le_k (le_d le_n))))) H
  · have H := H.2 (Decidable.not_not.mp c20)
    refine am_R.next ((hp 81).trans rfl) rfl ?_
    refine r_getR ((hp 82).trans rfl) (hw.o (i := 109) (by decide) rfl) (hw.r wr_109_26) ?_
    refine am_R.next ((hp 85).trans rfl) rfl ?_
    refine r_getR ((hp 86).trans rfl) (hw.o (i := 109) (by decide) rfl) (hw.r wr_109_24) ?_
    refine am_R.next ((hp 89).trans rfl) rfl ?_
    obtain ⟨c2, H⟩ := H
    refine r_iald ((hp 90).trans rfl) (hw.a (i := 119) (by decide) rfl c2.1 c2.2) ?_
    obtain ⟨c3, H⟩ := H
    refine r_iald ((hp 91).trans rfl) (hw.a (i := 121) (by decide) rfl c3.1 c3.2) ?_
    refine r_if ((hp 92).trans rfl) (fun c19 => ?_) (fun c19 => ?_)
    · have H := H.1 c19
      obtain ⟨y4, ey4⟩ : ∃ z : Int, z = am_w (x3 + (-1)) := ⟨_, rfl⟩
      have H := H y4 ey4
      refine am_R.next (lv' := [some (.inr (.inr ((109 : Nat) : Int))), some (.inl x1), some (.inl x2), some (.inl y4), some (.inl x4)]) (st' := []) (h' := h) (pc' := 158) ((hp 155).trans rfl) (by rw [ey4]; rfl) ?_
      refine am_R.next ((hp 158).trans rfl) rfl ?_
      exact r_le hs in_84 (le_k (le_k (le_k (le_k (le_d le_n))))) H
    · have H := H.2 c19
      refine am_R.next ((hp 95).trans rfl) rfl ?_
      refine am_R.next ((hp 96).trans rfl) rfl ?_
      refine r_getR ((hp 97).trans rfl) (hw.o (i := 109) (by decide) rfl) (hw.r wr_109_24) ?_
      refine am_R.next ((hp 100).trans rfl) rfl ?_
      obtain ⟨c5, H⟩ := H
      refine r_iald ((hp 101).trans rfl) (hw.a (i := 119) (by decide) rfl c5.1 c5.2) ?_
      refine am_R.next ((hp 102).trans rfl) rfl ?_
      refine r_cv (bs := [.inl (h.2.2.2 119 x3.toNat), .inl x4]) (st' := []) ((hp 104).trans rfl) (hw.o (i := 109) (by decide) rfl) rfl rfl (Nat.le_of_ble_eq_true rfl) (Nat.le_of_ble_eq_true rfl) (am_R.post H (fun v g6 hq => ?_))
      obtain ⟨r7, rfl, hw, H⟩ := hq
      change am_R _ _ _ _ _ [.inl r7] _ _
      refine am_R.next ((hp 107).trans rfl) rfl ?_
      refine r_getR ((hp 108).trans rfl) (hw.o (i := 109) (by decide) rfl) (hw.r wr_109_26) ?_
      refine am_R.next ((hp 111).trans rfl) rfl ?_
      refine r_getR ((hp 112).trans rfl) (hw.o (i := 109) (by decide) rfl) (hw.r wr_109_24) ?_
      refine am_R.next ((hp 115).trans rfl) rfl ?_
      obtain ⟨c8, H⟩ := H
      refine r_iald ((hp 116).trans rfl) (hw.a (i := 119) (by decide) rfl c8.1 c8.2) ?_
      obtain ⟨c9, H⟩ := H
      refine r_iald ((hp 117).trans rfl) (hw.a (i := 121) (by decide) rfl c9.1 c9.2) ?_
      refine r_ic ((hp 118).trans rfl) (fun c18 => ?_) (fun c18 => ?_)
      · have H := H.1 c18
        refine am_R.next ((hp 124).trans rfl) rfl ?_
        refine r_getR ((hp 125).trans rfl) (hw.o (i := 109) (by decide) rfl) (hw.r wr_109_26) ?_
        refine am_R.next ((hp 128).trans rfl) rfl ?_
        refine r_getR ((hp 129).trans rfl) (hw.o (i := 109) (by decide) rfl) (hw.r wr_109_24) ?_
        refine am_R.next ((hp 132).trans rfl) rfl ?_
        obtain ⟨c10, H⟩ := H
        refine r_iald ((hp 133).trans rfl) (hw.a (i := 119) (by decide) rfl c10.1 c10.2) ?_
        refine am_R.next ((hp 134).trans rfl) rfl ?_
        refine am_R.next ((hp 135).trans rfl) rfl ?_
        refine r_getR ((hp 136).trans rfl) (hw.o (i := 109) (by decide) rfl) (hw.r wr_109_24) ?_
        refine am_R.next ((hp 139).trans rfl) rfl ?_
        obtain ⟨c11, H⟩ := H
        refine r_iald ((hp 140).trans rfl) (hw.a (i := 119) (by decide) rfl c11.1 c11.2) ?_
        refine am_R.next ((hp 141).trans rfl) rfl ?_
        refine r_cv (bs := [.inl (g6.2.2.2 119 x3.toNat), .inl x4]) (st' := [.inl (g6.2.2.2 119 x3.toNat), .inr (.inr ((121 : Nat) : Int))]) ((hp 143).trans rfl) (hw.o (i := 109) (by decide) rfl) rfl rfl (Nat.le_of_ble_eq_true rfl) (Nat.le_of_ble_eq_true rfl) (am_R.post H (fun v g12 hq => ?_))
        obtain ⟨r13, rfl, hw, H⟩ := hq
        change am_R _ _ _ _ _ [.inl r13, .inl (g6.2.2.2 119 x3.toNat), .inr (.inr ((121 : Nat) : Int))] _ _
        obtain ⟨c14, H⟩ := H
        obtain ⟨h15, eh15⟩ : ∃ z : am_H, z = am_put g12 121 ((g6.2.2.2 119 x3.toNat).toNat) r13 := ⟨_, rfl⟩
        have H := H h15 eh15
        refine r_iast ((hp 146).trans rfl) (hw.a (i := 121) (by decide) rfl c14.1 c14.2) ?_
        have hw : wf h15 := by rw [eh15]; exact hw.pa na_121
        change am_R _ _ _ _ _ _ (am_put g12 121 ((g6.2.2.2 119 x3.toNat).toNat) r13) _
        rw [← eh15]
        refine am_R.next ((hp 147).trans rfl) rfl ?_
        refine am_R.next (lv' := [some (.inr (.inr ((109 : Nat) : Int))), some (.inl x1), some (.inl 1), some (.inl x3), some (.inl x4)]) ((hp 148).trans rfl) rfl ?_
        obtain ⟨y16, ey16⟩ : ∃ z : Int, z = am_w (x4 + 1) := ⟨_, rfl⟩
        have H := H y16 ey16
        refine am_R.next (lv' := [some (.inr (.inr ((109 : Nat) : Int))), some (.inl x1), some (.inl 1), some (.inl x3), some (.inl y16)]) (st' := []) (h' := h15) (pc' := 152) ((hp 149).trans rfl) (by rw [ey16]; rfl) ?_
        refine am_R.next ((hp 152).trans rfl) rfl ?_
        exact H
      · have H := H.2 c18
        refine am_R.next ((hp 121).trans rfl) rfl ?_
        obtain ⟨y17, ey17⟩ : ∃ z : Int, z = am_w (x4 + 1) := ⟨_, rfl⟩
        have H := H y17 ey17
        refine am_R.next (lv' := [some (.inr (.inr ((109 : Nat) : Int))), some (.inl x1), some (.inl x2), some (.inl x3), some (.inl y17)]) (st' := []) (h' := g6) (pc' := 152) ((hp 149).trans rfl) (by rw [ey17]; rfl) ?_
        refine am_R.next ((hp 152).trans rfl) rfl ?_
        exact H
theorem w_M_toldFar_0 {scr : Nat × (Nat → Int)} {d : Nat} {h : am_H} {Q : Option am_V → am_H → Prop} {x0 : Int} (hs : am_sc scr) (hw : wf h) (H : (¬ (x0 = 268435456) → (Q (some (.inl x0)) h)) ∧ (x0 = 268435456 → (Q (some (.inl (-1))) h))) : am_R (am_prog scr) d f_M_toldFar 0 [some (.inl x0)] [] h Q := by
  have hp : ∀ k, (am_prog scr).1 f_M_toldFar k = c_M_toldFar k := fun _ => rfl
  refine am_R.next ((hp 0).trans rfl) rfl ?_
  refine am_R.next ((hp 1).trans rfl) rfl ?_
  refine r_ic ((hp 4).trans rfl) (fun c1 => ?_) (fun c1 => ?_)
  · have H := H.1 c1
    refine am_R.next ((hp 11).trans rfl) rfl ?_
    exact am_R.ret ((hp 12).trans rfl) rfl H
  · have H := H.2 (Decidable.not_not.mp c1)
    refine am_R.next ((hp 7).trans rfl) rfl ?_
    refine am_R.next ((hp 8).trans rfl) rfl ?_
    exact am_R.ret ((hp 12).trans rfl) rfl H
theorem w_M_soonest_0 {scr : Nat × (Nat → Int)} {d : Nat} {h : am_H} {Q : Option am_V → am_H → Prop} {x1 : Int} (hs : am_sc scr) (hw : wf h) (H : ∀ h1 : am_H, h1 = am_put h 109 0 0 → (am_R (am_prog scr) d f_M_within 0 [some (.inr (.inl x1)), none, some (.inr (.inl 0)), none, some (.inr (.inl 1)), none] [] h1 (fun v g2 => ∃ r3 : Int, v = some (.inl r3) ∧ wf g2 ∧ ((r3 = 0 → (Q (some (.inl (-2))) g2)) ∧ (¬ (r3 = 0) → (am_R (am_prog scr) d f_M_laysFar 0 [some (.inr (.inr ((109 : Nat) : Int))), some (.inl x1), none, none, none] [] g2 (fun v g4 => ∃ r5 : Int, v = some (.inl r5) ∧ wf g4 ∧ (am_R (am_prog scr) d f_M_toldFar 0 [some (.inl r5)] [] g4 (fun v g6 => ∃ r7 : Int, v = some (.inl r7) ∧ wf g6 ∧ (Q (some (.inl r7)) g6)))))))))) : am_R (am_prog scr) (d + 1) f_M_soonest 0 [some (.inr (.inr ((109 : Nat) : Int))), some (.inl x1)] [] h Q := by
  have hp : ∀ k, (am_prog scr).1 f_M_soonest k = c_M_soonest k := fun _ => rfl
  refine am_R.next ((hp 0).trans rfl) rfl ?_
  refine am_R.next ((hp 1).trans rfl) rfl ?_
  obtain ⟨h1, eh1⟩ : ∃ z : am_H, z = am_put h 109 0 0 := ⟨_, rfl⟩
  have H := H h1 eh1
  refine r_putI ((hp 2).trans rfl) (hw.o (i := 109) (by decide) rfl) ?_
  have hw : wf h1 := by rw [eh1]; exact hw.put np_109_0
  change am_R _ _ _ _ _ _ (am_put h 109 0 0) _
  rw [← eh1]
  refine am_R.next ((hp 5).trans rfl) rfl ?_
  refine am_R.next ((hp 6).trans rfl) rfl ?_
  refine am_R.next ((hp 7).trans rfl) rfl ?_
  refine am_R.next ((hp 8).trans rfl) rfl ?_
  refine r_cs (as := [.inr (.inl x1), .inr (.inl 0), .inr (.inl 1)]) (st' := []) ((hp 9).trans rfl) rfl rfl (Nat.le_of_ble_eq_true rfl) (Nat.le_of_ble_eq_true rfl) (am_R.post H (fun v g2 hq => ?_))
  obtain ⟨r3, rfl, hw, H⟩ := hq
  change am_R _ _ _ _ _ [.inl r3] _ _
  refine r_if ((hp 12).trans rfl) (fun c8 => ?_) (fun c8 => ?_)
  · have H := H.1 c8
    refine am_R.next ((hp 26).trans rfl) rfl ?_
    exact am_R.ret ((hp 28).trans rfl) rfl H
  · have H := H.2 c8
    refine am_R.next ((hp 15).trans rfl) rfl ?_
    refine am_R.next ((hp 16).trans rfl) rfl ?_
    refine r_cv (bs := [.inl x1]) (st' := []) ((hp 17).trans rfl) (hw.o (i := 109) (by decide) rfl) rfl rfl (Nat.le_of_ble_eq_true rfl) (Nat.le_of_ble_eq_true rfl) (am_R.post H (fun v g4 hq => ?_))
    obtain ⟨r5, rfl, hw, H⟩ := hq
    change am_R _ _ _ _ _ [.inl r5] _ _
    refine r_cs (as := [.inl r5]) (st' := []) ((hp 20).trans rfl) rfl rfl (Nat.le_of_ble_eq_true rfl) (Nat.le_of_ble_eq_true rfl) (am_R.post H (fun v g6 hq => ?_))
    obtain ⟨r7, rfl, hw, H⟩ := hq
    change am_R _ _ _ _ _ [.inl r7] _ _
    refine am_R.next ((hp 23).trans rfl) rfl ?_
    exact am_R.ret ((hp 28).trans rfl) rfl H
theorem w_M_way_0 {scr : Nat × (Nat → Int)} {d : Nat} {h : am_H} {Q : Option am_V → am_H → Prop} {x1 x2 : Int} (hs : am_sc scr) (hw : wf h) (H : ∀ h1 : am_H, h1 = am_put h 109 0 0 → (am_R (am_prog scr) d f_M_within 0 [some (.inr (.inl x1)), none, some (.inr (.inl 0)), none, some (.inr (.inl 1)), none] [] h1 (fun v g2 => ∃ r3 : Int, v = some (.inl r3) ∧ wf g2 ∧ ((¬ (r3 = 0) → ((¬ (x2 < 0) → (am_R (am_prog scr) d f_M_laysFar 0 [some (.inr (.inr ((109 : Nat) : Int))), some (.inl x1), none, none, none] [] g2 (fun v g4 => ∃ r5 : Int, v = some (.inl r5) ∧ wf g4 ∧ (am_R (am_prog scr) d f_M_standNow 0 [some (.inr (.inr ((109 : Nat) : Int)))] [] g4 (fun v g6 => ∃ r7 : Int, v = some (.inl r7) ∧ wf g6 ∧ (am_R (am_prog scr) (d + 1) f_M_way 39 [some (.inr (.inr ((109 : Nat) : Int))), some (.inl x1), some (.inl x2), some (.inl r7), some (.inl 0), none] [] g6 Q)))))) ∧ (x2 < 0 → (Q (some (.inl (-3))) g2)))) ∧ (r3 = 0 → (Q (some (.inl (-2))) g2)))))) : am_R (am_prog scr) (d + 1) f_M_way 0 [some (.inr (.inr ((109 : Nat) : Int))), some (.inl x1), some (.inl x2), none, none, none] [] h Q := by
  have hp : ∀ k, (am_prog scr).1 f_M_way k = c_M_way k := fun _ => rfl
  refine am_R.next ((hp 0).trans rfl) rfl ?_
  refine am_R.next ((hp 1).trans rfl) rfl ?_
  obtain ⟨h1, eh1⟩ : ∃ z : am_H, z = am_put h 109 0 0 := ⟨_, rfl⟩
  have H := H h1 eh1
  refine r_putI ((hp 2).trans rfl) (hw.o (i := 109) (by decide) rfl) ?_
  have hw : wf h1 := by rw [eh1]; exact hw.put np_109_0
  change am_R _ _ _ _ _ _ (am_put h 109 0 0) _
  rw [← eh1]
  refine am_R.next ((hp 5).trans rfl) rfl ?_
  refine am_R.next ((hp 6).trans rfl) rfl ?_
  refine am_R.next ((hp 7).trans rfl) rfl ?_
  refine am_R.next ((hp 8).trans rfl) rfl ?_
  refine r_cs (as := [.inr (.inl x1), .inr (.inl 0), .inr (.inl 1)]) (st' := []) ((hp 9).trans rfl) rfl rfl (Nat.le_of_ble_eq_true rfl) (Nat.le_of_ble_eq_true rfl) (am_R.post H (fun v g2 hq => ?_))
  obtain ⟨r3, rfl, hw, H⟩ := hq
  change am_R _ _ _ _ _ [.inl r3] _ _
  refine r_if ((hp 12).trans rfl) (fun c9 => ?_) (fun c9 => ?_)
  · have H := H.1 c9
    refine am_R.next ((hp 18).trans rfl) rfl ?_
    refine r_if ((hp 19).trans rfl) (fun c8 => ?_) (fun c8 => ?_)
    · have H := H.1 c8
      refine am_R.next ((hp 25).trans rfl) rfl ?_
      refine am_R.next ((hp 26).trans rfl) rfl ?_
      refine r_cv (bs := [.inl x1]) (st' := []) ((hp 27).trans rfl) (hw.o (i := 109) (by decide) rfl) rfl rfl (Nat.le_of_ble_eq_true rfl) (Nat.le_of_ble_eq_true rfl) (am_R.post H (fun v g4 hq => ?_))
      obtain ⟨r5, rfl, hw, H⟩ := hq
      change am_R _ _ _ _ _ [.inl r5] _ _
      refine am_R.next ((hp 30).trans rfl) rfl ?_
      refine am_R.next ((hp 31).trans rfl) rfl ?_
      refine r_cv (bs := []) (st' := []) ((hp 32).trans rfl) (hw.o (i := 109) (by decide) rfl) rfl rfl (Nat.le_of_ble_eq_true rfl) (Nat.le_of_ble_eq_true rfl) (am_R.post H (fun v g6 hq => ?_))
      obtain ⟨r7, rfl, hw, H⟩ := hq
      change am_R _ _ _ _ _ [.inl r7] _ _
      refine am_R.next (lv' := [some (.inr (.inr ((109 : Nat) : Int))), some (.inl x1), some (.inl x2), some (.inl r7), none, none]) ((hp 35).trans rfl) rfl ?_
      refine am_R.next ((hp 36).trans rfl) rfl ?_
      refine am_R.next (lv' := [some (.inr (.inr ((109 : Nat) : Int))), some (.inl x1), some (.inl x2), some (.inl r7), some (.inl 0), none]) ((hp 37).trans rfl) rfl ?_
      exact H
    · have H := H.2 (Decidable.not_not.mp c8)
      refine am_R.next ((hp 22).trans rfl) rfl ?_
      exact am_R.ret ((hp 24).trans rfl) rfl H
  · have H := H.2 (Decidable.not_not.mp c9)
    refine am_R.next ((hp 15).trans rfl) rfl ?_
    exact am_R.ret ((hp 17).trans rfl) rfl H
theorem w_M_way_39 {scr : Nat × (Nat → Int)} {d : Nat} {h : am_H} {Q : Option am_V → am_H → Prop} {x1 x2 x3 x4 : Int} (hs : am_sc scr) (hw : wf h) (H : (0 ≤ x3 ∧ x3 < 360) ∧ (((h.2.2.2 121 x3.toNat) ≤ 0 → (Q (some (.inl (-1))) h)) ∧ (¬ ((h.2.2.2 121 x3.toNat) ≤ 0) → ((0 ≤ x3 ∧ x3 < 360) ∧ ((¬ ((h.2.2.2 121 x3.toNat) < 268435456) → (Q (some (.inl (-1))) h)) ∧ ((h.2.2.2 121 x3.toNat) < 268435456 → (am_R (am_prog scr) (d + 1) f_M_way 63 [some (.inr (.inr ((109 : Nat) : Int))), some (.inl x1), some (.inl x2), some (.inl x3), some (.inl x4), some (.inl 0)] [] h Q))))))) : am_R (am_prog scr) (d + 1) f_M_way 39 [some (.inr (.inr ((109 : Nat) : Int))), some (.inl x1), some (.inl x2), some (.inl x3), some (.inl x4), none] [] h Q := by
  have hp : ∀ k, (am_prog scr).1 f_M_way k = c_M_way k := fun _ => rfl
  refine am_R.next ((hp 39).trans rfl) rfl ?_
  refine r_getR ((hp 40).trans rfl) (hw.o (i := 109) (by decide) rfl) (hw.r wr_109_26) ?_
  refine am_R.next ((hp 43).trans rfl) rfl ?_
  obtain ⟨c1, H⟩ := H
  refine r_iald ((hp 44).trans rfl) (hw.a (i := 121) (by decide) rfl c1.1 c1.2) ?_
  refine r_if ((hp 45).trans rfl) (fun c4 => ?_) (fun c4 => ?_)
  · have H := H.1 c4
    refine am_R.next ((hp 113).trans rfl) rfl ?_
    exact am_R.ret ((hp 114).trans rfl) rfl H
  · have H := H.2 c4
    refine am_R.next ((hp 48).trans rfl) rfl ?_
    refine r_getR ((hp 49).trans rfl) (hw.o (i := 109) (by decide) rfl) (hw.r wr_109_26) ?_
    refine am_R.next ((hp 52).trans rfl) rfl ?_
    obtain ⟨c2, H⟩ := H
    refine r_iald ((hp 53).trans rfl) (hw.a (i := 121) (by decide) rfl c2.1 c2.2) ?_
    refine am_R.next ((hp 54).trans rfl) rfl ?_
    refine r_ic ((hp 57).trans rfl) (fun c3 => ?_) (fun c3 => ?_)
    · have H := H.1 c3
      refine am_R.next ((hp 113).trans rfl) rfl ?_
      exact am_R.ret ((hp 114).trans rfl) rfl H
    · have H := H.2 (Decidable.not_not.mp c3)
      refine am_R.next ((hp 60).trans rfl) rfl ?_
      refine am_R.next (lv' := [some (.inr (.inr ((109 : Nat) : Int))), some (.inl x1), some (.inl x2), some (.inl x3), some (.inl x4), some (.inl 0)]) ((hp 61).trans rfl) rfl ?_
      exact H
theorem w_M_way_63 {scr : Nat × (Nat → Int)} {d : Nat} {h : am_H} {Q : Option am_V → am_H → Prop} {x1 x2 x3 x4 x5 : Int} (hs : am_sc scr) (hw : wf h) (H : am_R (am_prog scr) d f_M_farBy 0 [some (.inr (.inr ((109 : Nat) : Int))), some (.inl x3), some (.inl x5), none] [] h (fun v g1 => ∃ r2 : Int, v = some (.inl r2) ∧ wf g1 ∧ ((0 ≤ x3 ∧ x3 < 360) ∧ ((r2 = (g1.2.2.2 121 x3.toNat) → ((¬ (x4 = x2) → ((0 ≤ (am_w ((am_w (7 * x3)) + x5)) ∧ (am_w ((am_w (7 * x3)) + x5)) < 2520) ∧ (∀ y5 : Int, y5 = g1.2.2.2 120 ((am_w ((am_w (7 * x3)) + x5)).toNat) → (∀ y6 : Int, y6 = am_w (x4 + 1) → (am_R (am_prog scr) (d + 1) f_M_way 39 [some (.inr (.inr ((109 : Nat) : Int))), some (.inl x1), some (.inl x2), some (.inl y5), some (.inl y6), none] [] g1 Q))))) ∧ (x4 = x2 → (Q (some (.inl x5)) g1)))) ∧ (¬ (r2 = (g1.2.2.2 121 x3.toNat)) → (∀ y8 : Int, y8 = am_w (x5 + 1) → (am_R (am_prog scr) (d + 1) f_M_way 63 [some (.inr (.inr ((109 : Nat) : Int))), some (.inl x1), some (.inl x2), some (.inl x3), some (.inl x4), some (.inl y8)] [] g1 Q))))))) : am_R (am_prog scr) (d + 1) f_M_way 63 [some (.inr (.inr ((109 : Nat) : Int))), some (.inl x1), some (.inl x2), some (.inl x3), some (.inl x4), some (.inl x5)] [] h Q := by
  have hp : ∀ k, (am_prog scr).1 f_M_way k = c_M_way k := fun _ => rfl
  refine am_R.next ((hp 63).trans rfl) rfl ?_
  refine am_R.next ((hp 64).trans rfl) rfl ?_
  refine am_R.next ((hp 65).trans rfl) rfl ?_
  refine r_cv (bs := [.inl x3, .inl x5]) (st' := []) ((hp 67).trans rfl) (hw.o (i := 109) (by decide) rfl) rfl rfl (Nat.le_of_ble_eq_true rfl) (Nat.le_of_ble_eq_true rfl) (am_R.post H (fun v g1 hq => ?_))
  obtain ⟨r2, rfl, hw, H⟩ := hq
  change am_R _ _ _ _ _ [.inl r2] _ _
  refine am_R.next ((hp 70).trans rfl) rfl ?_
  refine r_getR ((hp 71).trans rfl) (hw.o (i := 109) (by decide) rfl) (hw.r wr_109_26) ?_
  refine am_R.next ((hp 74).trans rfl) rfl ?_
  obtain ⟨c3, H⟩ := H
  refine r_iald ((hp 75).trans rfl) (hw.a (i := 121) (by decide) rfl c3.1 c3.2) ?_
  refine r_ic ((hp 76).trans rfl) (fun c9 => ?_) (fun c9 => ?_)
  · have H := H.1 c9
    refine am_R.next ((hp 85).trans rfl) rfl ?_
    refine am_R.next ((hp 87).trans rfl) rfl ?_
    refine r_ic ((hp 88).trans rfl) (fun c7 => ?_) (fun c7 => ?_)
    · have H := H.1 c7
      refine am_R.next ((hp 94).trans rfl) rfl ?_
      refine r_getR ((hp 95).trans rfl) (hw.o (i := 109) (by decide) rfl) (hw.r wr_109_25) ?_
      refine am_R.next ((hp 98).trans rfl) rfl ?_
      refine am_R.next ((hp 100).trans rfl) rfl ?_
      refine am_R.next ((hp 101).trans rfl) rfl ?_
      refine am_R.next ((hp 102).trans rfl) rfl ?_
      refine am_R.next ((hp 104).trans rfl) rfl ?_
      obtain ⟨c4, H⟩ := H
      refine r_iald ((hp 105).trans rfl) (hw.a (i := 120) (by decide) rfl c4.1 c4.2) ?_
      obtain ⟨y5, ey5⟩ : ∃ z : Int, z = g1.2.2.2 120 ((am_w ((am_w (7 * x3)) + x5)).toNat) := ⟨_, rfl⟩
      have H := H y5 ey5
      refine am_R.next (lv' := [some (.inr (.inr ((109 : Nat) : Int))), some (.inl x1), some (.inl x2), some (.inl y5), some (.inl x4), some (.inl x5)]) (st' := []) (h' := g1) (pc' := 107) ((hp 106).trans rfl) (by rw [ey5]; rfl) ?_
      obtain ⟨y6, ey6⟩ : ∃ z : Int, z = am_w (x4 + 1) := ⟨_, rfl⟩
      have H := H y6 ey6
      refine am_R.next (lv' := [some (.inr (.inr ((109 : Nat) : Int))), some (.inl x1), some (.inl x2), some (.inl y5), some (.inl y6), some (.inl x5)]) (st' := []) (h' := g1) (pc' := 110) ((hp 107).trans rfl) (by rw [ey6]; rfl) ?_
      refine am_R.next ((hp 110).trans rfl) rfl ?_
      exact r_le hs in_87 (le_k (le_k (le_k (le_k (le_k (le_d le_n)))))) H
    · have H := H.2 (Decidable.not_not.mp c7)
      refine am_R.next ((hp 91).trans rfl) rfl ?_
      exact am_R.ret ((hp 93).trans rfl) rfl H
  · have H := H.2 c9
    obtain ⟨y8, ey8⟩ : ∃ z : Int, z = am_w (x5 + 1) := ⟨_, rfl⟩
    have H := H y8 ey8
    refine am_R.next (lv' := [some (.inr (.inr ((109 : Nat) : Int))), some (.inl x1), some (.inl x2), some (.inl x3), some (.inl x4), some (.inl y8)]) (st' := []) (h' := g1) (pc' := 82) ((hp 79).trans rfl) (by rw [ey8]; rfl) ?_
    refine am_R.next ((hp 82).trans rfl) rfl ?_
    exact H
theorem w_M_beginsMany_0 {scr : Nat × (Nat → Int)} {d : Nat} {h : am_H} {Q : Option am_V → am_H → Prop} (hs : am_sc scr) (hw : wf h) (H : am_R (am_prog scr) (d + 1) f_M_beginsMany 2 [some (.inr (.inr ((109 : Nat) : Int))), some (.inl 0)] [] h Q) : am_R (am_prog scr) (d + 1) f_M_beginsMany 0 [some (.inr (.inr ((109 : Nat) : Int))), none] [] h Q := by
  have hp : ∀ k, (am_prog scr).1 f_M_beginsMany k = c_M_beginsMany k := fun _ => rfl
  refine am_R.next ((hp 0).trans rfl) rfl ?_
  refine am_R.next (lv' := [some (.inr (.inr ((109 : Nat) : Int))), some (.inl 0)]) ((hp 1).trans rfl) rfl ?_
  exact H
theorem w_M_beginsMany_2 {scr : Nat × (Nat → Int)} {d : Nat} {h : am_H} {Q : Option am_V → am_H → Prop} {x1 : Int} (hs : am_sc scr) (hw : wf h) (H : (¬ (x1 < 360) → (Q none h)) ∧ (x1 < 360 → (am_R (am_prog scr) d f_M_standNow 0 [some (.inr (.inr ((109 : Nat) : Int)))] [] h (fun v g1 => ∃ r2 : Int, v = some (.inl r2) ∧ wf g1 ∧ ((¬ (x1 = r2) → (((0 ≤ x1 ∧ x1 < 360)) ∧ (∀ h4 : am_H, h4 = am_put g1 124 x1.toNat 0 → (((0 ≤ x1 ∧ x1 < 360)) ∧ (∀ h6 : am_H, h6 = am_put h4 125 x1.toNat 0 → (∀ y7 : Int, y7 = am_w (x1 + 1) → (am_R (am_prog scr) (d + 1) f_M_beginsMany 2 [some (.inr (.inr ((109 : Nat) : Int))), some (.inl y7)] [] h6 Q))))))) ∧ (x1 = r2 → (((0 ≤ x1 ∧ x1 < 360)) ∧ (∀ h9 : am_H, h9 = am_put g1 124 x1.toNat 1 → (((0 ≤ x1 ∧ x1 < 360)) ∧ (∀ h11 : am_H, h11 = am_put h9 125 x1.toNat 0 → (∀ y12 : Int, y12 = am_w (x1 + 1) → (am_R (am_prog scr) (d + 1) f_M_beginsMany 2 [some (.inr (.inr ((109 : Nat) : Int))), some (.inl y12)] [] h11 Q)))))))))))) : am_R (am_prog scr) (d + 1) f_M_beginsMany 2 [some (.inr (.inr ((109 : Nat) : Int))), some (.inl x1)] [] h Q := by
  have hp : ∀ k, (am_prog scr).1 f_M_beginsMany k = c_M_beginsMany k := fun _ => rfl
  refine am_R.next ((hp 2).trans rfl) rfl ?_
  refine am_R.next ((hp 3).trans rfl) rfl ?_
  refine r_ic ((hp 6).trans rfl) (fun c14 => ?_) (fun c14 => ?_)
  · have H := H.1 c14
    exact am_R.ret ((hp 41).trans rfl) rfl H
  · have H := H.2 (Decidable.not_not.mp c14)
    refine am_R.next ((hp 9).trans rfl) rfl ?_
    refine r_getR ((hp 10).trans rfl) (hw.o (i := 109) (by decide) rfl) (hw.r wr_109_30) ?_
    refine am_R.next ((hp 13).trans rfl) rfl ?_
    refine am_R.next ((hp 14).trans rfl) rfl ?_
    refine am_R.next ((hp 15).trans rfl) rfl ?_
    refine r_cv (bs := []) (st' := [.inl x1, .inl x1, .inr (.inr ((124 : Nat) : Int))]) ((hp 16).trans rfl) (hw.o (i := 109) (by decide) rfl) rfl rfl (Nat.le_of_ble_eq_true rfl) (Nat.le_of_ble_eq_true rfl) (am_R.post H (fun v g1 hq => ?_))
    obtain ⟨r2, rfl, hw, H⟩ := hq
    change am_R _ _ _ _ _ [.inl r2, .inl x1, .inl x1, .inr (.inr ((124 : Nat) : Int))] _ _
    refine r_ic ((hp 19).trans rfl) (fun c13 => ?_) (fun c13 => ?_)
    · have H := H.1 c13
      refine am_R.next ((hp 26).trans rfl) rfl ?_
      obtain ⟨c3, H⟩ := H
      obtain ⟨h4, eh4⟩ : ∃ z : am_H, z = am_put g1 124 x1.toNat 0 := ⟨_, rfl⟩
      have H := H h4 eh4
      refine r_last ((hp 27).trans rfl) (hw.a (i := 124) (by decide) rfl c3.1 c3.2) ?_
      have hw : wf h4 := by rw [eh4]; exact hw.pa na_124
      change am_R _ _ _ _ _ _ (am_put g1 124 x1.toNat 0) _
      rw [← eh4]
      refine am_R.next ((hp 28).trans rfl) rfl ?_
      refine r_getR ((hp 29).trans rfl) (hw.o (i := 109) (by decide) rfl) (hw.r wr_109_31) ?_
      refine am_R.next ((hp 32).trans rfl) rfl ?_
      refine am_R.next ((hp 33).trans rfl) rfl ?_
      obtain ⟨c5, H⟩ := H
      obtain ⟨h6, eh6⟩ : ∃ z : am_H, z = am_put h4 125 x1.toNat 0 := ⟨_, rfl⟩
      have H := H h6 eh6
      refine r_last ((hp 34).trans rfl) (hw.a (i := 125) (by decide) rfl c5.1 c5.2) ?_
      have hw : wf h6 := by rw [eh6]; exact hw.pa na_125
      change am_R _ _ _ _ _ _ (am_put h4 125 x1.toNat 0) _
      rw [← eh6]
      obtain ⟨y7, ey7⟩ : ∃ z : Int, z = am_w (x1 + 1) := ⟨_, rfl⟩
      have H := H y7 ey7
      refine am_R.next (lv' := [some (.inr (.inr ((109 : Nat) : Int))), some (.inl y7)]) (st' := []) (h' := h6) (pc' := 38) ((hp 35).trans rfl) (by rw [ey7]; rfl) ?_
      refine am_R.next ((hp 38).trans rfl) rfl ?_
      exact H
    · have H := H.2 (Decidable.not_not.mp c13)
      refine am_R.next ((hp 22).trans rfl) rfl ?_
      refine am_R.next ((hp 23).trans rfl) rfl ?_
      obtain ⟨c8, H⟩ := H
      obtain ⟨h9, eh9⟩ : ∃ z : am_H, z = am_put g1 124 x1.toNat 1 := ⟨_, rfl⟩
      have H := H h9 eh9
      refine r_last ((hp 27).trans rfl) (hw.a (i := 124) (by decide) rfl c8.1 c8.2) ?_
      have hw : wf h9 := by rw [eh9]; exact hw.pa na_124
      change am_R _ _ _ _ _ _ (am_put g1 124 x1.toNat 1) _
      rw [← eh9]
      refine am_R.next ((hp 28).trans rfl) rfl ?_
      refine r_getR ((hp 29).trans rfl) (hw.o (i := 109) (by decide) rfl) (hw.r wr_109_31) ?_
      refine am_R.next ((hp 32).trans rfl) rfl ?_
      refine am_R.next ((hp 33).trans rfl) rfl ?_
      obtain ⟨c10, H⟩ := H
      obtain ⟨h11, eh11⟩ : ∃ z : am_H, z = am_put h9 125 x1.toNat 0 := ⟨_, rfl⟩
      have H := H h11 eh11
      refine r_last ((hp 34).trans rfl) (hw.a (i := 125) (by decide) rfl c10.1 c10.2) ?_
      have hw : wf h11 := by rw [eh11]; exact hw.pa na_125
      change am_R _ _ _ _ _ _ (am_put h9 125 x1.toNat 0) _
      rw [← eh11]
      obtain ⟨y12, ey12⟩ : ∃ z : Int, z = am_w (x1 + 1) := ⟨_, rfl⟩
      have H := H y12 ey12
      refine am_R.next (lv' := [some (.inr (.inr ((109 : Nat) : Int))), some (.inl y12)]) (st' := []) (h' := h11) (pc' := 38) ((hp 35).trans rfl) (by rw [ey12]; rfl) ?_
      refine am_R.next ((hp 38).trans rfl) rfl ?_
      exact H
theorem w_M_isThen_0 {scr : Nat × (Nat → Int)} {d : Nat} {h : am_H} {Q : Option am_V → am_H → Prop} (hs : am_sc scr) (hw : wf h) (H : am_R (am_prog scr) d f_M_isThen 2 [some (.inr (.inr ((109 : Nat) : Int))), some (.inl 0)] [] h Q) : am_R (am_prog scr) d f_M_isThen 0 [some (.inr (.inr ((109 : Nat) : Int))), none] [] h Q := by
  have hp : ∀ k, (am_prog scr).1 f_M_isThen k = c_M_isThen k := fun _ => rfl
  refine am_R.next ((hp 0).trans rfl) rfl ?_
  refine am_R.next (lv' := [some (.inr (.inr ((109 : Nat) : Int))), some (.inl 0)]) ((hp 1).trans rfl) rfl ?_
  exact H
theorem w_M_isThen_2 {scr : Nat × (Nat → Int)} {d : Nat} {h : am_H} {Q : Option am_V → am_H → Prop} {x1 : Int} (hs : am_sc scr) (hw : wf h) (H : (¬ (x1 < 360) → (Q none h)) ∧ (x1 < 360 → ((0 ≤ x1 ∧ x1 < 360) ∧ (((0 ≤ x1 ∧ x1 < 360)) ∧ (∀ h3 : am_H, h3 = am_put h 124 x1.toNat (h.2.2.2 125 x1.toNat) → (((0 ≤ x1 ∧ x1 < 360)) ∧ (∀ h5 : am_H, h5 = am_put h3 125 x1.toNat 0 → (∀ y6 : Int, y6 = am_w (x1 + 1) → (am_R (am_prog scr) d f_M_isThen 2 [some (.inr (.inr ((109 : Nat) : Int))), some (.inl y6)] [] h5 Q))))))))) : am_R (am_prog scr) d f_M_isThen 2 [some (.inr (.inr ((109 : Nat) : Int))), some (.inl x1)] [] h Q := by
  have hp : ∀ k, (am_prog scr).1 f_M_isThen k = c_M_isThen k := fun _ => rfl
  refine am_R.next ((hp 2).trans rfl) rfl ?_
  refine am_R.next ((hp 3).trans rfl) rfl ?_
  refine r_ic ((hp 6).trans rfl) (fun c7 => ?_) (fun c7 => ?_)
  · have H := H.1 c7
    exact am_R.ret ((hp 34).trans rfl) rfl H
  · have H := H.2 (Decidable.not_not.mp c7)
    refine am_R.next ((hp 9).trans rfl) rfl ?_
    refine r_getR ((hp 10).trans rfl) (hw.o (i := 109) (by decide) rfl) (hw.r wr_109_30) ?_
    refine am_R.next ((hp 13).trans rfl) rfl ?_
    refine am_R.next ((hp 14).trans rfl) rfl ?_
    refine r_getR ((hp 15).trans rfl) (hw.o (i := 109) (by decide) rfl) (hw.r wr_109_31) ?_
    refine am_R.next ((hp 18).trans rfl) rfl ?_
    obtain ⟨c1, H⟩ := H
    refine r_lald ((hp 19).trans rfl) (hw.a (i := 125) (by decide) rfl c1.1 c1.2) ?_
    obtain ⟨c2, H⟩ := H
    obtain ⟨h3, eh3⟩ : ∃ z : am_H, z = am_put h 124 x1.toNat (h.2.2.2 125 x1.toNat) := ⟨_, rfl⟩
    have H := H h3 eh3
    refine r_last ((hp 20).trans rfl) (hw.a (i := 124) (by decide) rfl c2.1 c2.2) ?_
    have hw : wf h3 := by rw [eh3]; exact hw.pa na_124
    change am_R _ _ _ _ _ _ (am_put h 124 x1.toNat (h.2.2.2 125 x1.toNat)) _
    rw [← eh3]
    refine am_R.next ((hp 21).trans rfl) rfl ?_
    refine r_getR ((hp 22).trans rfl) (hw.o (i := 109) (by decide) rfl) (hw.r wr_109_31) ?_
    refine am_R.next ((hp 25).trans rfl) rfl ?_
    refine am_R.next ((hp 26).trans rfl) rfl ?_
    obtain ⟨c4, H⟩ := H
    obtain ⟨h5, eh5⟩ : ∃ z : am_H, z = am_put h3 125 x1.toNat 0 := ⟨_, rfl⟩
    have H := H h5 eh5
    refine r_last ((hp 27).trans rfl) (hw.a (i := 125) (by decide) rfl c4.1 c4.2) ?_
    have hw : wf h5 := by rw [eh5]; exact hw.pa na_125
    change am_R _ _ _ _ _ _ (am_put h3 125 x1.toNat 0) _
    rw [← eh5]
    obtain ⟨y6, ey6⟩ : ∃ z : Int, z = am_w (x1 + 1) := ⟨_, rfl⟩
    have H := H y6 ey6
    refine am_R.next (lv' := [some (.inr (.inr ((109 : Nat) : Int))), some (.inl y6)]) (st' := []) (h' := h5) (pc' := 31) ((hp 28).trans rfl) (by rw [ey6]; rfl) ?_
    refine am_R.next ((hp 31).trans rfl) rfl ?_
    exact H
theorem w_M_rows_0 {scr : Nat × (Nat → Int)} {d : Nat} {h : am_H} {Q : Option am_V → am_H → Prop} {x1 x2 : Int} (hs : am_sc scr) (hw : wf h) (H : ∀ h1 : am_H, h1 = am_put h 109 0 0 → (am_R (am_prog scr) d f_M_within 0 [some (.inr (.inl x1)), none, some (.inr (.inl 0)), none, some (.inr (.inl 2)), none] [] h1 (fun v g2 => ∃ r3 : Int, v = some (.inl r3) ∧ wf g2 ∧ ((¬ (r3 = 0) → (am_R (am_prog scr) d f_M_within 0 [some (.inr (.inl x2)), none, some (.inr (.inl 0)), none, some (.inr (.inl 10)), none] [] g2 (fun v g4 => ∃ r5 : Int, v = some (.inl r5) ∧ wf g4 ∧ ((¬ (r5 = 0) → (am_R (am_prog scr) d f_M_laysStands 0 [some (.inr (.inr ((109 : Nat) : Int))), none, none, none] [] g4 (fun v g6 => v = none ∧ wf g6 ∧ (am_R (am_prog scr) d f_M_beginsMany 0 [some (.inr (.inr ((109 : Nat) : Int))), none] [] g6 (fun v g7 => v = none ∧ wf g7 ∧ (am_R (am_prog scr) (d + 1) f_M_rows 47 [some (.inr (.inr ((109 : Nat) : Int))), some (.inl x1), some (.inl x2), some (.inl 0), none, none, none] [] g7 Q)))))) ∧ (r5 = 0 → (Q (some (.inr (.inl (-3)))) g4)))))) ∧ (r3 = 0 → (Q (some (.inr (.inl (-2)))) g2)))))) : am_R (am_prog scr) (d + 1) f_M_rows 0 [some (.inr (.inr ((109 : Nat) : Int))), some (.inl x1), some (.inl x2), none, none, none, none] [] h Q := by
  have hp : ∀ k, (am_prog scr).1 f_M_rows k = c_M_rows k := fun _ => rfl
  refine am_R.next ((hp 0).trans rfl) rfl ?_
  refine am_R.next ((hp 1).trans rfl) rfl ?_
  obtain ⟨h1, eh1⟩ : ∃ z : am_H, z = am_put h 109 0 0 := ⟨_, rfl⟩
  have H := H h1 eh1
  refine r_putI ((hp 2).trans rfl) (hw.o (i := 109) (by decide) rfl) ?_
  have hw : wf h1 := by rw [eh1]; exact hw.put np_109_0
  change am_R _ _ _ _ _ _ (am_put h 109 0 0) _
  rw [← eh1]
  refine am_R.next ((hp 5).trans rfl) rfl ?_
  refine am_R.next ((hp 6).trans rfl) rfl ?_
  refine am_R.next ((hp 7).trans rfl) rfl ?_
  refine am_R.next ((hp 8).trans rfl) rfl ?_
  refine r_cs (as := [.inr (.inl x1), .inr (.inl 0), .inr (.inl 2)]) (st' := []) ((hp 11).trans rfl) rfl rfl (Nat.le_of_ble_eq_true rfl) (Nat.le_of_ble_eq_true rfl) (am_R.post H (fun v g2 hq => ?_))
  obtain ⟨r3, rfl, hw, H⟩ := hq
  change am_R _ _ _ _ _ [.inl r3] _ _
  refine r_if ((hp 14).trans rfl) (fun c9 => ?_) (fun c9 => ?_)
  · have H := H.1 c9
    refine am_R.next ((hp 21).trans rfl) rfl ?_
    refine am_R.next ((hp 22).trans rfl) rfl ?_
    refine am_R.next ((hp 23).trans rfl) rfl ?_
    refine am_R.next ((hp 24).trans rfl) rfl ?_
    refine r_cs (as := [.inr (.inl x2), .inr (.inl 0), .inr (.inl 10)]) (st' := []) ((hp 27).trans rfl) rfl rfl (Nat.le_of_ble_eq_true rfl) (Nat.le_of_ble_eq_true rfl) (am_R.post H (fun v g4 hq => ?_))
    obtain ⟨r5, rfl, hw, H⟩ := hq
    change am_R _ _ _ _ _ [.inl r5] _ _
    refine r_if ((hp 30).trans rfl) (fun c8 => ?_) (fun c8 => ?_)
    · have H := H.1 c8
      refine am_R.next ((hp 37).trans rfl) rfl ?_
      refine r_cv (bs := []) (st' := []) ((hp 38).trans rfl) (hw.o (i := 109) (by decide) rfl) rfl rfl (Nat.le_of_ble_eq_true rfl) (Nat.le_of_ble_eq_true rfl) (am_R.post H (fun v g6 hq => ?_))
      obtain ⟨rfl, hw, H⟩ := hq
      change am_R _ _ _ _ _ [] _ _
      refine am_R.next ((hp 41).trans rfl) rfl ?_
      refine r_cv (bs := []) (st' := []) ((hp 42).trans rfl) (hw.o (i := 109) (by decide) rfl) rfl rfl (Nat.le_of_ble_eq_true rfl) (Nat.le_of_ble_eq_true rfl) (am_R.post H (fun v g7 hq => ?_))
      obtain ⟨rfl, hw, H⟩ := hq
      change am_R _ _ _ _ _ [] _ _
      refine am_R.next ((hp 45).trans rfl) rfl ?_
      refine am_R.next (lv' := [some (.inr (.inr ((109 : Nat) : Int))), some (.inl x1), some (.inl x2), some (.inl 0), none, none, none]) ((hp 46).trans rfl) rfl ?_
      exact H
    · have H := H.2 (Decidable.not_not.mp c8)
      refine am_R.next ((hp 33).trans rfl) rfl ?_
      exact am_R.ret ((hp 36).trans rfl) rfl H
  · have H := H.2 (Decidable.not_not.mp c9)
    refine am_R.next ((hp 17).trans rfl) rfl ?_
    exact am_R.ret ((hp 20).trans rfl) rfl H
theorem w_M_rows_47 {scr : Nat × (Nat → Int)} {d : Nat} {h : am_H} {Q : Option am_V → am_H → Prop} {x1 x2 x3 : Int} (hs : am_sc scr) (hw : wf h) (H : (¬ (x3 < x2) → (am_R (am_prog scr) (d + 1) f_M_rows 167 [some (.inr (.inr ((109 : Nat) : Int))), some (.inl x1), some (.inl x2), some (.inr (.inl 0)), none, some (.inl 0), none] [] h Q)) ∧ (x3 < x2 → (am_R (am_prog scr) (d + 1) f_M_rows 55 [some (.inr (.inr ((109 : Nat) : Int))), some (.inl x1), some (.inl x2), some (.inl x3), some (.inl 0), none, none] [] h Q))) : am_R (am_prog scr) (d + 1) f_M_rows 47 [some (.inr (.inr ((109 : Nat) : Int))), some (.inl x1), some (.inl x2), some (.inl x3), none, none, none] [] h Q := by
  have hp : ∀ k, (am_prog scr).1 f_M_rows k = c_M_rows k := fun _ => rfl
  refine am_R.next ((hp 47).trans rfl) rfl ?_
  refine am_R.next ((hp 48).trans rfl) rfl ?_
  refine r_ic ((hp 49).trans rfl) (fun c1 => ?_) (fun c1 => ?_)
  · have H := H.1 c1
    refine am_R.next ((hp 162).trans rfl) rfl ?_
    refine am_R.next (lv' := [some (.inr (.inr ((109 : Nat) : Int))), some (.inl x1), some (.inl x2), some (.inr (.inl 0)), none, none, none]) ((hp 163).trans rfl) rfl ?_
    refine am_R.next ((hp 164).trans rfl) rfl ?_
    refine am_R.next (lv' := [some (.inr (.inr ((109 : Nat) : Int))), some (.inl x1), some (.inl x2), some (.inr (.inl 0)), none, some (.inl 0), none]) ((hp 165).trans rfl) rfl ?_
    exact H
  · have H := H.2 (Decidable.not_not.mp c1)
    refine am_R.next ((hp 52).trans rfl) rfl ?_
    refine am_R.next (lv' := [some (.inr (.inr ((109 : Nat) : Int))), some (.inl x1), some (.inl x2), some (.inl x3), some (.inl 0), none, none]) ((hp 53).trans rfl) rfl ?_
    exact H
theorem w_M_rows_55 {scr : Nat × (Nat → Int)} {d : Nat} {h : am_H} {Q : Option am_V → am_H → Prop} {x1 x2 x3 x4 : Int} (hs : am_sc scr) (hw : wf h) (H : (¬ (x4 < (h.2.2.2 109 29)) → (am_R (am_prog scr) d f_M_isThen 0 [some (.inr (.inr ((109 : Nat) : Int))), none] [] h (fun v g1 => v = none ∧ wf g1 ∧ (∀ y2 : Int, y2 = am_w (x3 + 1) → (am_R (am_prog scr) (d + 1) f_M_rows 47 [some (.inr (.inr ((109 : Nat) : Int))), some (.inl x1), some (.inl x2), some (.inl y2), none, none, none] [] g1 Q))))) ∧ (x4 < (h.2.2.2 109 29) → ((0 ≤ x4 ∧ x4 < 360) ∧ (∀ y4 : Int, y4 = h.2.2.2 119 x4.toNat → (am_R (am_prog scr) (d + 1) f_M_rows 76 [some (.inr (.inr ((109 : Nat) : Int))), some (.inl x1), some (.inl x2), some (.inl x3), some (.inl x4), some (.inl y4), some (.inl 0)] [] h Q))))) : am_R (am_prog scr) (d + 1) f_M_rows 55 [some (.inr (.inr ((109 : Nat) : Int))), some (.inl x1), some (.inl x2), some (.inl x3), some (.inl x4), none, none] [] h Q := by
  have hp : ∀ k, (am_prog scr).1 f_M_rows k = c_M_rows k := fun _ => rfl
  refine am_R.next ((hp 55).trans rfl) rfl ?_
  refine am_R.next ((hp 57).trans rfl) rfl ?_
  refine r_getI ((hp 58).trans rfl) (hw.o (i := 109) (by decide) rfl) ?_
  refine r_ic ((hp 61).trans rfl) (fun c5 => ?_) (fun c5 => ?_)
  · have H := H.1 c5
    refine am_R.next ((hp 152).trans rfl) rfl ?_
    refine r_cv (bs := []) (st' := []) ((hp 153).trans rfl) (hw.o (i := 109) (by decide) rfl) rfl rfl (Nat.le_of_ble_eq_true rfl) (Nat.le_of_ble_eq_true rfl) (am_R.post H (fun v g1 hq => ?_))
    obtain ⟨rfl, hw, H⟩ := hq
    change am_R _ _ _ _ _ [] _ _
    obtain ⟨y2, ey2⟩ : ∃ z : Int, z = am_w (x3 + 1) := ⟨_, rfl⟩
    have H := H y2 ey2
    refine am_R.next (lv' := [some (.inr (.inr ((109 : Nat) : Int))), some (.inl x1), some (.inl x2), some (.inl y2), some (.inl x4), none, none]) (st' := []) (h' := g1) (pc' := 159) ((hp 156).trans rfl) (by rw [ey2]; rfl) ?_
    refine am_R.next ((hp 159).trans rfl) rfl ?_
    exact r_le hs in_90 (le_k (le_k (le_k (le_k (le_d (le_k (le_k le_n))))))) H
  · have H := H.2 (Decidable.not_not.mp c5)
    refine am_R.next ((hp 64).trans rfl) rfl ?_
    refine r_getR ((hp 65).trans rfl) (hw.o (i := 109) (by decide) rfl) (hw.r wr_109_24) ?_
    refine am_R.next ((hp 68).trans rfl) rfl ?_
    obtain ⟨c3, H⟩ := H
    refine r_iald ((hp 70).trans rfl) (hw.a (i := 119) (by decide) rfl c3.1 c3.2) ?_
    obtain ⟨y4, ey4⟩ : ∃ z : Int, z = h.2.2.2 119 x4.toNat := ⟨_, rfl⟩
    have H := H y4 ey4
    refine am_R.next (lv' := [some (.inr (.inr ((109 : Nat) : Int))), some (.inl x1), some (.inl x2), some (.inl x3), some (.inl x4), some (.inl y4), none]) (st' := []) (h' := h) (pc' := 73) ((hp 71).trans rfl) (by rw [ey4]; rfl) ?_
    refine am_R.next ((hp 73).trans rfl) rfl ?_
    refine am_R.next (lv' := [some (.inr (.inr ((109 : Nat) : Int))), some (.inl x1), some (.inl x2), some (.inl x3), some (.inl x4), some (.inl y4), some (.inl 0)]) ((hp 74).trans rfl) rfl ?_
    exact H
theorem w_M_rows_76 {scr : Nat × (Nat → Int)} {d : Nat} {h : am_H} {Q : Option am_V → am_H → Prop} {x1 x2 x3 x4 x5 x6 : Int} (hs : am_sc scr) (hw : wf h) (H : (¬ (x6 < 7) → (∀ y1 : Int, y1 = am_w (x4 + 1) → (am_R (am_prog scr) (d + 1) f_M_rows 55 [some (.inr (.inr ((109 : Nat) : Int))), some (.inl x1), some (.inl x2), some (.inl x3), some (.inl y1), none, none] [] h Q))) ∧ (x6 < 7 → ((0 ≤ x5 ∧ x5 < 360) ∧ ((¬ (0 < (h.2.2.2 124 x5.toNat)) → (∀ y3 : Int, y3 = am_w (x4 + 1) → (am_R (am_prog scr) (d + 1) f_M_rows 55 [some (.inr (.inr ((109 : Nat) : Int))), some (.inl x1), some (.inl x2), some (.inl x3), some (.inl y3), none, none] [] h Q))) ∧ (0 < (h.2.2.2 124 x5.toNat) → ((0 ≤ (am_w ((am_w (7 * x5)) + x6)) ∧ (am_w ((am_w (7 * x5)) + x6)) < 2520) ∧ (((h.2.2.2 120 ((am_w ((am_w (7 * x5)) + x6)).toNat)) = (-1) → (∀ y5 : Int, y5 = am_w (x6 + 1) → (am_R (am_prog scr) (d + 1) f_M_rows 76 [some (.inr (.inr ((109 : Nat) : Int))), some (.inl x1), some (.inl x2), some (.inl x3), some (.inl x4), some (.inl x5), some (.inl y5)] [] h Q))) ∧ (¬ ((h.2.2.2 120 ((am_w ((am_w (7 * x5)) + x6)).toNat)) = (-1)) → ((0 ≤ (am_w ((am_w (7 * x5)) + x6)) ∧ (am_w ((am_w (7 * x5)) + x6)) < 2520) ∧ ((0 ≤ (h.2.2.2 120 ((am_w ((am_w (7 * x5)) + x6)).toNat)) ∧ (h.2.2.2 120 ((am_w ((am_w (7 * x5)) + x6)).toNat)) < 360) ∧ ((0 ≤ x5 ∧ x5 < 360) ∧ (((0 ≤ (h.2.2.2 120 ((am_w ((am_w (7 * x5)) + x6)).toNat)) ∧ (h.2.2.2 120 ((am_w ((am_w (7 * x5)) + x6)).toNat)) < 360)) ∧ (∀ h10 : am_H, h10 = am_put h 125 ((h.2.2.2 120 ((am_w ((am_w (7 * x5)) + x6)).toNat)).toNat) (am_W ((h.2.2.2 125 ((h.2.2.2 120 ((am_w ((am_w (7 * x5)) + x6)).toNat)).toNat)) + (h.2.2.2 124 x5.toNat))) → (∀ y11 : Int, y11 = am_w (x6 + 1) → (am_R (am_prog scr) (d + 1) f_M_rows 76 [some (.inr (.inr ((109 : Nat) : Int))), some (.inl x1), some (.inl x2), some (.inl x3), some (.inl x4), some (.inl x5), some (.inl y11)] [] h10 Q))))))))))))))) : am_R (am_prog scr) (d + 1) f_M_rows 76 [some (.inr (.inr ((109 : Nat) : Int))), some (.inl x1), some (.inl x2), some (.inl x3), some (.inl x4), some (.inl x5), some (.inl x6)] [] h Q := by
  have hp : ∀ k, (am_prog scr).1 f_M_rows k = c_M_rows k := fun _ => rfl
  refine am_R.next ((hp 76).trans rfl) rfl ?_
  refine am_R.next ((hp 78).trans rfl) rfl ?_
  refine r_ic ((hp 80).trans rfl) (fun c14 => ?_) (fun c14 => ?_)
  · have H := H.1 c14
    obtain ⟨y1, ey1⟩ : ∃ z : Int, z = am_w (x4 + 1) := ⟨_, rfl⟩
    have H := H y1 ey1
    refine am_R.next (lv' := [some (.inr (.inr ((109 : Nat) : Int))), some (.inl x1), some (.inl x2), some (.inl x3), some (.inl y1), some (.inl x5), some (.inl x6)]) (st' := []) (h' := h) (pc' := 149) ((hp 146).trans rfl) (by rw [ey1]; rfl) ?_
    refine am_R.next ((hp 149).trans rfl) rfl ?_
    exact r_le hs in_90 (le_k (le_k (le_k (le_k (le_k (le_d (le_d le_n))))))) H
  · have H := H.2 (Decidable.not_not.mp c14)
    refine am_R.next ((hp 83).trans rfl) rfl ?_
    refine r_getR ((hp 84).trans rfl) (hw.o (i := 109) (by decide) rfl) (hw.r wr_109_30) ?_
    refine am_R.next ((hp 87).trans rfl) rfl ?_
    obtain ⟨c2, H⟩ := H
    refine r_lald ((hp 89).trans rfl) (hw.a (i := 124) (by decide) rfl c2.1 c2.2) ?_
    refine am_R.next ((hp 90).trans rfl) rfl ?_
    refine am_R.next ((hp 91).trans rfl) rfl ?_
    refine r_if ((hp 92).trans rfl) (fun c13 => ?_) (fun c13 => ?_)
    · have H := H.1 (lc_let c13)
      obtain ⟨y3, ey3⟩ : ∃ z : Int, z = am_w (x4 + 1) := ⟨_, rfl⟩
      have H := H y3 ey3
      refine am_R.next (lv' := [some (.inr (.inr ((109 : Nat) : Int))), some (.inl x1), some (.inl x2), some (.inl x3), some (.inl y3), some (.inl x5), some (.inl x6)]) (st' := []) (h' := h) (pc' := 149) ((hp 146).trans rfl) (by rw [ey3]; rfl) ?_
      refine am_R.next ((hp 149).trans rfl) rfl ?_
      exact r_le hs in_90 (le_k (le_k (le_k (le_k (le_k (le_d (le_d le_n))))))) H
    · have H := H.2 (lc_lef c13)
      refine am_R.next ((hp 95).trans rfl) rfl ?_
      refine r_getR ((hp 96).trans rfl) (hw.o (i := 109) (by decide) rfl) (hw.r wr_109_25) ?_
      refine am_R.next ((hp 99).trans rfl) rfl ?_
      refine am_R.next ((hp 101).trans rfl) rfl ?_
      refine am_R.next ((hp 103).trans rfl) rfl ?_
      refine am_R.next ((hp 104).trans rfl) rfl ?_
      refine am_R.next ((hp 106).trans rfl) rfl ?_
      obtain ⟨c4, H⟩ := H
      refine r_iald ((hp 107).trans rfl) (hw.a (i := 120) (by decide) rfl c4.1 c4.2) ?_
      refine am_R.next ((hp 108).trans rfl) rfl ?_
      refine r_ic ((hp 109).trans rfl) (fun c12 => ?_) (fun c12 => ?_)
      · have H := H.1 c12
        obtain ⟨y5, ey5⟩ : ∃ z : Int, z = am_w (x6 + 1) := ⟨_, rfl⟩
        have H := H y5 ey5
        refine am_R.next (lv' := [some (.inr (.inr ((109 : Nat) : Int))), some (.inl x1), some (.inl x2), some (.inl x3), some (.inl x4), some (.inl x5), some (.inl y5)]) (st' := []) (h' := h) (pc' := 143) ((hp 140).trans rfl) (by rw [ey5]; rfl) ?_
        refine am_R.next ((hp 143).trans rfl) rfl ?_
        exact H
      · have H := H.2 c12
        refine am_R.next ((hp 112).trans rfl) rfl ?_
        refine r_getR ((hp 113).trans rfl) (hw.o (i := 109) (by decide) rfl) (hw.r wr_109_31) ?_
        refine am_R.next ((hp 116).trans rfl) rfl ?_
        refine r_getR ((hp 117).trans rfl) (hw.o (i := 109) (by decide) rfl) (hw.r wr_109_25) ?_
        refine am_R.next ((hp 120).trans rfl) rfl ?_
        refine am_R.next ((hp 122).trans rfl) rfl ?_
        refine am_R.next ((hp 124).trans rfl) rfl ?_
        refine am_R.next ((hp 125).trans rfl) rfl ?_
        refine am_R.next ((hp 127).trans rfl) rfl ?_
        obtain ⟨c6, H⟩ := H
        refine r_iald ((hp 128).trans rfl) (hw.a (i := 120) (by decide) rfl c6.1 c6.2) ?_
        refine am_R.next ((hp 129).trans rfl) rfl ?_
        obtain ⟨c7, H⟩ := H
        refine r_lald ((hp 130).trans rfl) (hw.a (i := 125) (by decide) rfl c7.1 c7.2) ?_
        refine am_R.next ((hp 131).trans rfl) rfl ?_
        refine r_getR ((hp 132).trans rfl) (hw.o (i := 109) (by decide) rfl) (hw.r wr_109_30) ?_
        refine am_R.next ((hp 135).trans rfl) rfl ?_
        obtain ⟨c8, H⟩ := H
        refine r_lald ((hp 137).trans rfl) (hw.a (i := 124) (by decide) rfl c8.1 c8.2) ?_
        refine am_R.next ((hp 138).trans rfl) rfl ?_
        obtain ⟨c9, H⟩ := H
        obtain ⟨h10, eh10⟩ : ∃ z : am_H, z = am_put h 125 ((h.2.2.2 120 ((am_w ((am_w (7 * x5)) + x6)).toNat)).toNat) (am_W ((h.2.2.2 125 ((h.2.2.2 120 ((am_w ((am_w (7 * x5)) + x6)).toNat)).toNat)) + (h.2.2.2 124 x5.toNat))) := ⟨_, rfl⟩
        have H := H h10 eh10
        refine r_last ((hp 139).trans rfl) (hw.a (i := 125) (by decide) rfl c9.1 c9.2) ?_
        have hw : wf h10 := by rw [eh10]; exact hw.pa na_125
        change am_R _ _ _ _ _ _ (am_put h 125 ((h.2.2.2 120 ((am_w ((am_w (7 * x5)) + x6)).toNat)).toNat) (am_W ((h.2.2.2 125 ((h.2.2.2 120 ((am_w ((am_w (7 * x5)) + x6)).toNat)).toNat)) + (h.2.2.2 124 x5.toNat)))) _
        rw [← eh10]
        obtain ⟨y11, ey11⟩ : ∃ z : Int, z = am_w (x6 + 1) := ⟨_, rfl⟩
        have H := H y11 ey11
        refine am_R.next (lv' := [some (.inr (.inr ((109 : Nat) : Int))), some (.inl x1), some (.inl x2), some (.inl x3), some (.inl x4), some (.inl x5), some (.inl y11)]) (st' := []) (h' := h10) (pc' := 143) ((hp 140).trans rfl) (by rw [ey11]; rfl) ?_
        refine am_R.next ((hp 143).trans rfl) rfl ?_
        exact H
theorem w_M_rows_167 {scr : Nat × (Nat → Int)} {d : Nat} {h : am_H} {Q : Option am_V → am_H → Prop} {x1 x2 x3 x5 : Int} (hs : am_sc scr) (hw : wf h) (H : (¬ (x5 < (h.2.2.2 109 29)) → (Q (some (.inr (.inl x3))) h)) ∧ (x5 < (h.2.2.2 109 29) → ((0 ≤ x5 ∧ x5 < 360) ∧ (am_R (am_prog scr) d f_M_isSo 0 [some (.inr (.inr ((109 : Nat) : Int))), some (.inl (h.2.2.2 119 x5.toNat)), some (.inl x1)] [] h (fun v g2 => ∃ r3 : Int, v = some (.inl r3) ∧ wf g2 ∧ ((r3 = 0 → (∀ y4 : Int, y4 = am_W (x3 + 0) → (∀ y5 : Int, y5 = am_w (x5 + 1) → (am_R (am_prog scr) (d + 1) f_M_rows 167 [some (.inr (.inr ((109 : Nat) : Int))), some (.inl x1), some (.inl x2), some (.inr (.inl y4)), none, some (.inl y5), none] [] g2 Q)))) ∧ (¬ (r3 = 0) → ((0 ≤ x5 ∧ x5 < 360) ∧ ((0 ≤ (g2.2.2.2 119 x5.toNat) ∧ (g2.2.2.2 119 x5.toNat) < 360) ∧ (∀ y8 : Int, y8 = am_W (x3 + (g2.2.2.2 124 ((g2.2.2.2 119 x5.toNat).toNat))) → (∀ y9 : Int, y9 = am_w (x5 + 1) → (am_R (am_prog scr) (d + 1) f_M_rows 167 [some (.inr (.inr ((109 : Nat) : Int))), some (.inl x1), some (.inl x2), some (.inr (.inl y8)), none, some (.inl y9), none] [] g2 Q)))))))))))) : am_R (am_prog scr) (d + 1) f_M_rows 167 [some (.inr (.inr ((109 : Nat) : Int))), some (.inl x1), some (.inl x2), some (.inr (.inl x3)), none, some (.inl x5), none] [] h Q := by
  have hp : ∀ k, (am_prog scr).1 f_M_rows k = c_M_rows k := fun _ => rfl
  refine am_R.next ((hp 167).trans rfl) rfl ?_
  refine am_R.next ((hp 169).trans rfl) rfl ?_
  refine r_getI ((hp 170).trans rfl) (hw.o (i := 109) (by decide) rfl) ?_
  refine r_ic ((hp 173).trans rfl) (fun c11 => ?_) (fun c11 => ?_)
  · have H := H.1 c11
    refine am_R.next ((hp 216).trans rfl) rfl ?_
    exact am_R.ret ((hp 217).trans rfl) rfl H
  · have H := H.2 (Decidable.not_not.mp c11)
    refine am_R.next ((hp 176).trans rfl) rfl ?_
    refine am_R.next ((hp 177).trans rfl) rfl ?_
    refine am_R.next ((hp 178).trans rfl) rfl ?_
    refine r_getR ((hp 179).trans rfl) (hw.o (i := 109) (by decide) rfl) (hw.r wr_109_24) ?_
    refine am_R.next ((hp 182).trans rfl) rfl ?_
    obtain ⟨c1, H⟩ := H
    refine r_iald ((hp 184).trans rfl) (hw.a (i := 119) (by decide) rfl c1.1 c1.2) ?_
    refine am_R.next ((hp 185).trans rfl) rfl ?_
    refine r_cv (bs := [.inl (h.2.2.2 119 x5.toNat), .inl x1]) (st' := [.inr (.inl x3)]) ((hp 186).trans rfl) (hw.o (i := 109) (by decide) rfl) rfl rfl (Nat.le_of_ble_eq_true rfl) (Nat.le_of_ble_eq_true rfl) (am_R.post H (fun v g2 hq => ?_))
    obtain ⟨r3, rfl, hw, H⟩ := hq
    change am_R _ _ _ _ _ [.inl r3, .inr (.inl x3)] _ _
    refine r_if ((hp 189).trans rfl) (fun c10 => ?_) (fun c10 => ?_)
    · have H := H.1 c10
      refine am_R.next ((hp 207).trans rfl) rfl ?_
      refine am_R.next ((hp 208).trans rfl) rfl ?_
      obtain ⟨y4, ey4⟩ : ∃ z : Int, z = am_W (x3 + 0) := ⟨_, rfl⟩
      have H := H y4 ey4
      refine am_R.next (lv' := [some (.inr (.inr ((109 : Nat) : Int))), some (.inl x1), some (.inl x2), some (.inr (.inl y4)), none, some (.inl x5), none]) (st' := []) (h' := g2) (pc' := 210) ((hp 209).trans rfl) (by rw [ey4]; rfl) ?_
      obtain ⟨y5, ey5⟩ : ∃ z : Int, z = am_w (x5 + 1) := ⟨_, rfl⟩
      have H := H y5 ey5
      refine am_R.next (lv' := [some (.inr (.inr ((109 : Nat) : Int))), some (.inl x1), some (.inl x2), some (.inr (.inl y4)), none, some (.inl y5), none]) (st' := []) (h' := g2) (pc' := 213) ((hp 210).trans rfl) (by rw [ey5]; rfl) ?_
      refine am_R.next ((hp 213).trans rfl) rfl ?_
      exact H
    · have H := H.2 c10
      refine am_R.next ((hp 192).trans rfl) rfl ?_
      refine r_getR ((hp 193).trans rfl) (hw.o (i := 109) (by decide) rfl) (hw.r wr_109_30) ?_
      refine am_R.next ((hp 196).trans rfl) rfl ?_
      refine r_getR ((hp 197).trans rfl) (hw.o (i := 109) (by decide) rfl) (hw.r wr_109_24) ?_
      refine am_R.next ((hp 200).trans rfl) rfl ?_
      obtain ⟨c6, H⟩ := H
      refine r_iald ((hp 202).trans rfl) (hw.a (i := 119) (by decide) rfl c6.1 c6.2) ?_
      obtain ⟨c7, H⟩ := H
      refine r_lald ((hp 203).trans rfl) (hw.a (i := 124) (by decide) rfl c7.1 c7.2) ?_
      refine am_R.next ((hp 204).trans rfl) rfl ?_
      refine am_R.next ((hp 208).trans rfl) rfl ?_
      obtain ⟨y8, ey8⟩ : ∃ z : Int, z = am_W (x3 + (g2.2.2.2 124 ((g2.2.2.2 119 x5.toNat).toNat))) := ⟨_, rfl⟩
      have H := H y8 ey8
      refine am_R.next (lv' := [some (.inr (.inr ((109 : Nat) : Int))), some (.inl x1), some (.inl x2), some (.inr (.inl y8)), none, some (.inl x5), none]) (st' := []) (h' := g2) (pc' := 210) ((hp 209).trans rfl) (by rw [ey8]; rfl) ?_
      obtain ⟨y9, ey9⟩ : ∃ z : Int, z = am_w (x5 + 1) := ⟨_, rfl⟩
      have H := H y9 ey9
      refine am_R.next (lv' := [some (.inr (.inr ((109 : Nat) : Int))), some (.inl x1), some (.inl x2), some (.inr (.inl y8)), none, some (.inl y9), none]) (st' := []) (h' := g2) (pc' := 213) ((hp 210).trans rfl) (by rw [ey9]; rfl) ?_
      refine am_R.next ((hp 213).trans rfl) rfl ?_
      exact H
theorem w_M_keptBy_0 {scr : Nat × (Nat → Int)} {d : Nat} {h : am_H} {Q : Option am_V → am_H → Prop} {x1 x2 : Int} (hs : am_sc scr) (hw : wf h) (H : (0 ≤ (am_w ((am_w (7 * x1)) + x2)) ∧ (am_w ((am_w (7 * x1)) + x2)) < 2520) ∧ (∀ y2 : Int, y2 = h.2.2.2 120 ((am_w ((am_w (7 * x1)) + x2)).toNat) → ((y2 = (-1) → (Q (some (.inl (-1))) h)) ∧ (¬ (y2 = (-1)) → (am_R (am_prog scr) d f_M_isOver 0 [some (.inr (.inr ((109 : Nat) : Int))), some (.inl y2)] [] h (fun v g3 => ∃ r4 : Int, v = some (.inl r4) ∧ wf g3 ∧ ((r4 = 0 → ((0 ≤ y2 ∧ y2 < 360) ∧ ((¬ ((g3.2.2.2 121 y2.toNat) = 268435456) → ((0 ≤ y2 ∧ y2 < 360) ∧ (Q (some (.inl (am_w ((g3.2.2.2 121 y2.toNat) + 1)))) g3))) ∧ ((g3.2.2.2 121 y2.toNat) = 268435456 → (Q (some (.inl 268435456)) g3))))) ∧ (¬ (r4 = 0) → (Q (some (.inl (-1))) g3))))))))) : am_R (am_prog scr) (d + 1) f_M_keptBy 0 [some (.inr (.inr ((109 : Nat) : Int))), some (.inl x1), some (.inl x2), none] [] h Q := by
  have hp : ∀ k, (am_prog scr).1 f_M_keptBy k = c_M_keptBy k := fun _ => rfl
  refine am_R.next ((hp 0).trans rfl) rfl ?_
  refine r_getR ((hp 1).trans rfl) (hw.o (i := 109) (by decide) rfl) (hw.r wr_109_25) ?_
  refine am_R.next ((hp 4).trans rfl) rfl ?_
  refine am_R.next ((hp 6).trans rfl) rfl ?_
  refine am_R.next ((hp 7).trans rfl) rfl ?_
  refine am_R.next ((hp 8).trans rfl) rfl ?_
  refine am_R.next ((hp 9).trans rfl) rfl ?_
  obtain ⟨c1, H⟩ := H
  refine r_iald ((hp 10).trans rfl) (hw.a (i := 120) (by decide) rfl c1.1 c1.2) ?_
  obtain ⟨y2, ey2⟩ : ∃ z : Int, z = h.2.2.2 120 ((am_w ((am_w (7 * x1)) + x2)).toNat) := ⟨_, rfl⟩
  have H := H y2 ey2
  refine am_R.next (lv' := [some (.inr (.inr ((109 : Nat) : Int))), some (.inl x1), some (.inl x2), some (.inl y2)]) (st' := []) (h' := h) (pc' := 12) ((hp 11).trans rfl) (by rw [ey2]; rfl) ?_
  refine am_R.next ((hp 12).trans rfl) rfl ?_
  refine am_R.next ((hp 13).trans rfl) rfl ?_
  refine r_ic ((hp 14).trans rfl) (fun c9 => ?_) (fun c9 => ?_)
  · have H := H.1 c9
    refine am_R.next ((hp 25).trans rfl) rfl ?_
    refine am_R.next ((hp 26).trans rfl) rfl ?_
    exact am_R.ret ((hp 55).trans rfl) rfl H
  · have H := H.2 c9
    refine am_R.next ((hp 17).trans rfl) rfl ?_
    refine am_R.next ((hp 18).trans rfl) rfl ?_
    refine r_cv (bs := [.inl y2]) (st' := []) ((hp 19).trans rfl) (hw.o (i := 109) (by decide) rfl) rfl rfl (Nat.le_of_ble_eq_true rfl) (Nat.le_of_ble_eq_true rfl) (am_R.post H (fun v g3 hq => ?_))
    obtain ⟨r4, rfl, hw, H⟩ := hq
    change am_R _ _ _ _ _ [.inl r4] _ _
    refine r_if ((hp 22).trans rfl) (fun c8 => ?_) (fun c8 => ?_)
    · have H := H.1 c8
      refine am_R.next ((hp 29).trans rfl) rfl ?_
      refine r_getR ((hp 30).trans rfl) (hw.o (i := 109) (by decide) rfl) (hw.r wr_109_26) ?_
      refine am_R.next ((hp 33).trans rfl) rfl ?_
      obtain ⟨c5, H⟩ := H
      refine r_iald ((hp 34).trans rfl) (hw.a (i := 121) (by decide) rfl c5.1 c5.2) ?_
      refine am_R.next ((hp 35).trans rfl) rfl ?_
      refine r_ic ((hp 38).trans rfl) (fun c7 => ?_) (fun c7 => ?_)
      · have H := H.1 c7
        refine am_R.next ((hp 47).trans rfl) rfl ?_
        refine r_getR ((hp 48).trans rfl) (hw.o (i := 109) (by decide) rfl) (hw.r wr_109_26) ?_
        refine am_R.next ((hp 51).trans rfl) rfl ?_
        obtain ⟨c6, H⟩ := H
        refine r_iald ((hp 52).trans rfl) (hw.a (i := 121) (by decide) rfl c6.1 c6.2) ?_
        refine am_R.next ((hp 53).trans rfl) rfl ?_
        refine am_R.next ((hp 54).trans rfl) rfl ?_
        exact am_R.ret ((hp 55).trans rfl) rfl H
      · have H := H.2 (Decidable.not_not.mp c7)
        refine am_R.next ((hp 41).trans rfl) rfl ?_
        refine am_R.next ((hp 44).trans rfl) rfl ?_
        exact am_R.ret ((hp 55).trans rfl) rfl H
    · have H := H.2 c8
      refine am_R.next ((hp 25).trans rfl) rfl ?_
      refine am_R.next ((hp 26).trans rfl) rfl ?_
      exact am_R.ret ((hp 55).trans rfl) rfl H
theorem w_M_laysKept_0 {scr : Nat × (Nat → Int)} {d : Nat} {h : am_H} {Q : Option am_V → am_H → Prop} (hs : am_sc scr) (hw : wf h) (H : am_R (am_prog scr) d f_M_laysStands 0 [some (.inr (.inr ((109 : Nat) : Int))), none, none, none] [] h (fun v g1 => v = none ∧ wf g1 ∧ (am_R (am_prog scr) (d + 1) f_M_laysKept 6 [some (.inr (.inr ((109 : Nat) : Int))), some (.inl 0), none, none, none, none] [] g1 Q))) : am_R (am_prog scr) (d + 1) f_M_laysKept 0 [some (.inr (.inr ((109 : Nat) : Int))), none, none, none, none, none] [] h Q := by
  have hp : ∀ k, (am_prog scr).1 f_M_laysKept k = c_M_laysKept k := fun _ => rfl
  refine am_R.next ((hp 0).trans rfl) rfl ?_
  refine r_cv (bs := []) (st' := []) ((hp 1).trans rfl) (hw.o (i := 109) (by decide) rfl) rfl rfl (Nat.le_of_ble_eq_true rfl) (Nat.le_of_ble_eq_true rfl) (am_R.post H (fun v g1 hq => ?_))
  obtain ⟨rfl, hw, H⟩ := hq
  change am_R _ _ _ _ _ [] _ _
  refine am_R.next ((hp 4).trans rfl) rfl ?_
  refine am_R.next (lv' := [some (.inr (.inr ((109 : Nat) : Int))), some (.inl 0), none, none, none, none]) ((hp 5).trans rfl) rfl ?_
  exact H
theorem w_M_laysKept_6 {scr : Nat × (Nat → Int)} {d : Nat} {h : am_H} {Q : Option am_V → am_H → Prop} {x1 : Int} (hs : am_sc scr) (hw : wf h) (H : (¬ (x1 < (h.2.2.2 109 29)) → (am_R (am_prog scr) (d + 1) f_M_laysKept 36 [some (.inr (.inr ((109 : Nat) : Int))), some (.inl 1), none, none, none, none] [] h Q)) ∧ (x1 < (h.2.2.2 109 29) → ((0 ≤ x1 ∧ x1 < 360) ∧ (((0 ≤ (h.2.2.2 119 x1.toNat) ∧ (h.2.2.2 119 x1.toNat) < 360)) ∧ (∀ h3 : am_H, h3 = am_put h 121 ((h.2.2.2 119 x1.toNat).toNat) 268435456 → (∀ y4 : Int, y4 = am_w (x1 + 1) → (am_R (am_prog scr) (d + 1) f_M_laysKept 6 [some (.inr (.inr ((109 : Nat) : Int))), some (.inl y4), none, none, none, none] [] h3 Q))))))) : am_R (am_prog scr) (d + 1) f_M_laysKept 6 [some (.inr (.inr ((109 : Nat) : Int))), some (.inl x1), none, none, none, none] [] h Q := by
  have hp : ∀ k, (am_prog scr).1 f_M_laysKept k = c_M_laysKept k := fun _ => rfl
  refine am_R.next ((hp 6).trans rfl) rfl ?_
  refine am_R.next ((hp 7).trans rfl) rfl ?_
  refine r_getI ((hp 8).trans rfl) (hw.o (i := 109) (by decide) rfl) ?_
  refine r_ic ((hp 11).trans rfl) (fun c5 => ?_) (fun c5 => ?_)
  · have H := H.1 c5
    refine am_R.next ((hp 34).trans rfl) rfl ?_
    refine am_R.next (lv' := [some (.inr (.inr ((109 : Nat) : Int))), some (.inl 1), none, none, none, none]) ((hp 35).trans rfl) rfl ?_
    exact H
  · have H := H.2 (Decidable.not_not.mp c5)
    refine am_R.next ((hp 14).trans rfl) rfl ?_
    refine r_getR ((hp 15).trans rfl) (hw.o (i := 109) (by decide) rfl) (hw.r wr_109_26) ?_
    refine am_R.next ((hp 18).trans rfl) rfl ?_
    refine r_getR ((hp 19).trans rfl) (hw.o (i := 109) (by decide) rfl) (hw.r wr_109_24) ?_
    refine am_R.next ((hp 22).trans rfl) rfl ?_
    obtain ⟨c1, H⟩ := H
    refine r_iald ((hp 23).trans rfl) (hw.a (i := 119) (by decide) rfl c1.1 c1.2) ?_
    refine am_R.next ((hp 24).trans rfl) rfl ?_
    obtain ⟨c2, H⟩ := H
    obtain ⟨h3, eh3⟩ : ∃ z : am_H, z = am_put h 121 ((h.2.2.2 119 x1.toNat).toNat) 268435456 := ⟨_, rfl⟩
    have H := H h3 eh3
    refine r_iast ((hp 27).trans rfl) (hw.a (i := 121) (by decide) rfl c2.1 c2.2) ?_
    have hw : wf h3 := by rw [eh3]; exact hw.pa na_121
    change am_R _ _ _ _ _ _ (am_put h 121 ((h.2.2.2 119 x1.toNat).toNat) 268435456) _
    rw [← eh3]
    obtain ⟨y4, ey4⟩ : ∃ z : Int, z = am_w (x1 + 1) := ⟨_, rfl⟩
    have H := H y4 ey4
    refine am_R.next (lv' := [some (.inr (.inr ((109 : Nat) : Int))), some (.inl y4), none, none, none, none]) (st' := []) (h' := h3) (pc' := 31) ((hp 28).trans rfl) (by rw [ey4]; rfl) ?_
    refine am_R.next ((hp 31).trans rfl) rfl ?_
    exact H
theorem w_M_laysKept_36 {scr : Nat × (Nat → Int)} {d : Nat} {h : am_H} {Q : Option am_V → am_H → Prop} {x1 : Int} (hs : am_sc scr) (hw : wf h) (H : (x1 = 0 → (am_R (am_prog scr) d f_M_standNow 0 [some (.inr (.inr ((109 : Nat) : Int)))] [] h (fun v g1 => ∃ r2 : Int, v = some (.inl r2) ∧ wf g1 ∧ ((0 ≤ r2 ∧ r2 < 360) ∧ (Q (some (.inl (g1.2.2.2 121 r2.toNat))) g1))))) ∧ (¬ (x1 = 0) → (am_R (am_prog scr) (d + 1) f_M_laysKept 44 [some (.inr (.inr ((109 : Nat) : Int))), some (.inl 0), some (.inl 0), none, none, none] [] h Q))) : am_R (am_prog scr) (d + 1) f_M_laysKept 36 [some (.inr (.inr ((109 : Nat) : Int))), some (.inl x1), none, none, none, none] [] h Q := by
  have hp : ∀ k, (am_prog scr).1 f_M_laysKept k = c_M_laysKept k := fun _ => rfl
  refine am_R.next ((hp 36).trans rfl) rfl ?_
  refine r_if ((hp 37).trans rfl) (fun c4 => ?_) (fun c4 => ?_)
  · have H := H.1 c4
    refine am_R.next ((hp 158).trans rfl) rfl ?_
    refine r_getR ((hp 159).trans rfl) (hw.o (i := 109) (by decide) rfl) (hw.r wr_109_26) ?_
    refine am_R.next ((hp 162).trans rfl) rfl ?_
    refine r_cv (bs := []) (st' := [.inr (.inr ((121 : Nat) : Int))]) ((hp 163).trans rfl) (hw.o (i := 109) (by decide) rfl) rfl rfl (Nat.le_of_ble_eq_true rfl) (Nat.le_of_ble_eq_true rfl) (am_R.post H (fun v g1 hq => ?_))
    obtain ⟨r2, rfl, hw, H⟩ := hq
    change am_R _ _ _ _ _ [.inl r2, .inr (.inr ((121 : Nat) : Int))] _ _
    obtain ⟨c3, H⟩ := H
    refine r_iald ((hp 166).trans rfl) (hw.a (i := 121) (by decide) rfl c3.1 c3.2) ?_
    exact am_R.ret ((hp 167).trans rfl) rfl H
  · have H := H.2 c4
    refine am_R.next ((hp 40).trans rfl) rfl ?_
    refine am_R.next (lv' := [some (.inr (.inr ((109 : Nat) : Int))), some (.inl 0), none, none, none, none]) ((hp 41).trans rfl) rfl ?_
    refine am_R.next ((hp 42).trans rfl) rfl ?_
    refine am_R.next (lv' := [some (.inr (.inr ((109 : Nat) : Int))), some (.inl 0), some (.inl 0), none, none, none]) ((hp 43).trans rfl) rfl ?_
    exact H
theorem w_M_laysKept_44 {scr : Nat × (Nat → Int)} {d : Nat} {h : am_H} {Q : Option am_V → am_H → Prop} {x1 x2 : Int} (hs : am_sc scr) (hw : wf h) (H : (¬ (x2 < (h.2.2.2 109 29)) → (am_R (am_prog scr) (d + 1) f_M_laysKept 36 [some (.inr (.inr ((109 : Nat) : Int))), some (.inl x1), none, none, none, none] [] h Q)) ∧ (x2 < (h.2.2.2 109 29) → ((0 ≤ x2 ∧ x2 < 360) ∧ (∀ y2 : Int, y2 = h.2.2.2 119 x2.toNat → (am_R (am_prog scr) (d + 1) f_M_laysKept 65 [some (.inr (.inr ((109 : Nat) : Int))), some (.inl x1), some (.inl x2), some (.inl y2), some (.inl 0), some (.inl 0)] [] h Q))))) : am_R (am_prog scr) (d + 1) f_M_laysKept 44 [some (.inr (.inr ((109 : Nat) : Int))), some (.inl x1), some (.inl x2), none, none, none] [] h Q := by
  have hp : ∀ k, (am_prog scr).1 f_M_laysKept k = c_M_laysKept k := fun _ => rfl
  refine am_R.next ((hp 44).trans rfl) rfl ?_
  refine am_R.next ((hp 45).trans rfl) rfl ?_
  refine r_getI ((hp 46).trans rfl) (hw.o (i := 109) (by decide) rfl) ?_
  refine r_ic ((hp 49).trans rfl) (fun c3 => ?_) (fun c3 => ?_)
  · have H := H.1 c3
    refine am_R.next ((hp 155).trans rfl) rfl ?_
    exact r_le hs in_92 (le_k (le_k (le_d (le_k (le_k (le_k le_n)))))) H
  · have H := H.2 (Decidable.not_not.mp c3)
    refine am_R.next ((hp 52).trans rfl) rfl ?_
    refine r_getR ((hp 53).trans rfl) (hw.o (i := 109) (by decide) rfl) (hw.r wr_109_24) ?_
    refine am_R.next ((hp 56).trans rfl) rfl ?_
    obtain ⟨c1, H⟩ := H
    refine r_iald ((hp 57).trans rfl) (hw.a (i := 119) (by decide) rfl c1.1 c1.2) ?_
    obtain ⟨y2, ey2⟩ : ∃ z : Int, z = h.2.2.2 119 x2.toNat := ⟨_, rfl⟩
    have H := H y2 ey2
    refine am_R.next (lv' := [some (.inr (.inr ((109 : Nat) : Int))), some (.inl x1), some (.inl x2), some (.inl y2), none, none]) (st' := []) (h' := h) (pc' := 59) ((hp 58).trans rfl) (by rw [ey2]; rfl) ?_
    refine am_R.next ((hp 59).trans rfl) rfl ?_
    refine am_R.next (lv' := [some (.inr (.inr ((109 : Nat) : Int))), some (.inl x1), some (.inl x2), some (.inl y2), some (.inl 0), none]) ((hp 60).trans rfl) rfl ?_
    refine am_R.next ((hp 62).trans rfl) rfl ?_
    refine am_R.next (lv' := [some (.inr (.inr ((109 : Nat) : Int))), some (.inl x1), some (.inl x2), some (.inl y2), some (.inl 0), some (.inl 0)]) ((hp 63).trans rfl) rfl ?_
    exact H
theorem w_M_laysKept_65 {scr : Nat × (Nat → Int)} {d : Nat} {h : am_H} {Q : Option am_V → am_H → Prop} {x1 x2 x3 x4 x5 : Int} (hs : am_sc scr) (hw : wf h) (H : (¬ (x5 < 7) → (am_R (am_prog scr) (d + 1) f_M_laysKept 116 [some (.inr (.inr ((109 : Nat) : Int))), some (.inl x1), some (.inl x2), some (.inl x3), some (.inl x4), some (.inl x5)] [] h Q)) ∧ (x5 < 7 → ((0 ≤ x3 ∧ x3 < 360) ∧ ((¬ ((h.2.2.2 121 x3.toNat) = 268435456) → (am_R (am_prog scr) (d + 1) f_M_laysKept 116 [some (.inr (.inr ((109 : Nat) : Int))), some (.inl x1), some (.inl x2), some (.inl x3), some (.inl x4), some (.inl x5)] [] h Q)) ∧ ((h.2.2.2 121 x3.toNat) = 268435456 → (am_R (am_prog scr) d f_M_keptBy 0 [some (.inr (.inr ((109 : Nat) : Int))), some (.inl x3), some (.inl x5), none] [] h (fun v g2 => ∃ r3 : Int, v = some (.inl r3) ∧ wf g2 ∧ ((r3 ≤ x4 → (∀ y4 : Int, y4 = am_w (x5 + 1) → (am_R (am_prog scr) (d + 1) f_M_laysKept 65 [some (.inr (.inr ((109 : Nat) : Int))), some (.inl x1), some (.inl x2), some (.inl x3), some (.inl x4), some (.inl y4)] [] g2 Q))) ∧ (¬ (r3 ≤ x4) → (am_R (am_prog scr) d f_M_keptBy 0 [some (.inr (.inr ((109 : Nat) : Int))), some (.inl x3), some (.inl x5), none] [] g2 (fun v g5 => ∃ r6 : Int, v = some (.inl r6) ∧ wf g5 ∧ (∀ y7 : Int, y7 = am_w (x5 + 1) → (am_R (am_prog scr) (d + 1) f_M_laysKept 65 [some (.inr (.inr ((109 : Nat) : Int))), some (.inl x1), some (.inl x2), some (.inl x3), some (.inl r6), some (.inl y7)] [] g5 Q))))))))))))) : am_R (am_prog scr) (d + 1) f_M_laysKept 65 [some (.inr (.inr ((109 : Nat) : Int))), some (.inl x1), some (.inl x2), some (.inl x3), some (.inl x4), some (.inl x5)] [] h Q := by
  have hp : ∀ k, (am_prog scr).1 f_M_laysKept k = c_M_laysKept k := fun _ => rfl
  refine am_R.next ((hp 65).trans rfl) rfl ?_
  refine am_R.next ((hp 67).trans rfl) rfl ?_
  refine r_ic ((hp 69).trans rfl) (fun c10 => ?_) (fun c10 => ?_)
  · have H := H.1 c10
    exact H
  · have H := H.2 (Decidable.not_not.mp c10)
    refine am_R.next ((hp 72).trans rfl) rfl ?_
    refine r_getR ((hp 73).trans rfl) (hw.o (i := 109) (by decide) rfl) (hw.r wr_109_26) ?_
    refine am_R.next ((hp 76).trans rfl) rfl ?_
    obtain ⟨c1, H⟩ := H
    refine r_iald ((hp 77).trans rfl) (hw.a (i := 121) (by decide) rfl c1.1 c1.2) ?_
    refine am_R.next ((hp 78).trans rfl) rfl ?_
    refine r_ic ((hp 81).trans rfl) (fun c9 => ?_) (fun c9 => ?_)
    · have H := H.1 c9
      exact H
    · have H := H.2 (Decidable.not_not.mp c9)
      refine am_R.next ((hp 84).trans rfl) rfl ?_
      refine am_R.next ((hp 85).trans rfl) rfl ?_
      refine am_R.next ((hp 86).trans rfl) rfl ?_
      refine r_cv (bs := [.inl x3, .inl x5]) (st' := []) ((hp 88).trans rfl) (hw.o (i := 109) (by decide) rfl) rfl rfl (Nat.le_of_ble_eq_true rfl) (Nat.le_of_ble_eq_true rfl) (am_R.post H (fun v g2 hq => ?_))
      obtain ⟨r3, rfl, hw, H⟩ := hq
      change am_R _ _ _ _ _ [.inl r3] _ _
      refine am_R.next ((hp 91).trans rfl) rfl ?_
      refine r_ic ((hp 93).trans rfl) (fun c8 => ?_) (fun c8 => ?_)
      · have H := H.1 c8
        refine am_R.next ((hp 106).trans rfl) rfl ?_
        refine am_R.next (lv' := [some (.inr (.inr ((109 : Nat) : Int))), some (.inl x1), some (.inl x2), some (.inl x3), some (.inl x4), some (.inl x5)]) ((hp 108).trans rfl) rfl ?_
        obtain ⟨y4, ey4⟩ : ∃ z : Int, z = am_w (x5 + 1) := ⟨_, rfl⟩
        have H := H y4 ey4
        refine am_R.next (lv' := [some (.inr (.inr ((109 : Nat) : Int))), some (.inl x1), some (.inl x2), some (.inl x3), some (.inl x4), some (.inl y4)]) (st' := []) (h' := g2) (pc' := 113) ((hp 110).trans rfl) (by rw [ey4]; rfl) ?_
        refine am_R.next ((hp 113).trans rfl) rfl ?_
        exact H
      · have H := H.2 c8
        refine am_R.next ((hp 96).trans rfl) rfl ?_
        refine am_R.next ((hp 97).trans rfl) rfl ?_
        refine am_R.next ((hp 98).trans rfl) rfl ?_
        refine r_cv (bs := [.inl x3, .inl x5]) (st' := []) ((hp 100).trans rfl) (hw.o (i := 109) (by decide) rfl) rfl rfl (Nat.le_of_ble_eq_true rfl) (Nat.le_of_ble_eq_true rfl) (am_R.post H (fun v g5 hq => ?_))
        obtain ⟨r6, rfl, hw, H⟩ := hq
        change am_R _ _ _ _ _ [.inl r6] _ _
        refine am_R.next ((hp 103).trans rfl) rfl ?_
        refine am_R.next (lv' := [some (.inr (.inr ((109 : Nat) : Int))), some (.inl x1), some (.inl x2), some (.inl x3), some (.inl r6), some (.inl x5)]) ((hp 108).trans rfl) rfl ?_
        obtain ⟨y7, ey7⟩ : ∃ z : Int, z = am_w (x5 + 1) := ⟨_, rfl⟩
        have H := H y7 ey7
        refine am_R.next (lv' := [some (.inr (.inr ((109 : Nat) : Int))), some (.inl x1), some (.inl x2), some (.inl x3), some (.inl r6), some (.inl y7)]) (st' := []) (h' := g5) (pc' := 113) ((hp 110).trans rfl) (by rw [ey7]; rfl) ?_
        refine am_R.next ((hp 113).trans rfl) rfl ?_
        exact H
theorem w_M_laysKept_116 {scr : Nat × (Nat → Int)} {d : Nat} {h : am_H} {Q : Option am_V → am_H → Prop} {x1 x2 x3 x4 x5 : Int} (hs : am_sc scr) (hw : wf h) (H : (0 ≤ x3 ∧ x3 < 360) ∧ (((h.2.2.2 121 x3.toNat) < 268435456 → (∀ y2 : Int, y2 = am_w (x2 + 1) → (am_R (am_prog scr) (d + 1) f_M_laysKept 44 [some (.inr (.inr ((109 : Nat) : Int))), some (.inl x1), some (.inl y2), none, none, none] [] h Q))) ∧ (¬ ((h.2.2.2 121 x3.toNat) < 268435456) → ((¬ (x4 = 268435456) → (((0 ≤ x3 ∧ x3 < 360)) ∧ (∀ h4 : am_H, h4 = am_put h 121 x3.toNat x4 → (∀ y5 : Int, y5 = am_w (x2 + 1) → (am_R (am_prog scr) (d + 1) f_M_laysKept 44 [some (.inr (.inr ((109 : Nat) : Int))), some (.inl 1), some (.inl y5), none, none, none] [] h4 Q))))) ∧ (x4 = 268435456 → (∀ y6 : Int, y6 = am_w (x2 + 1) → (am_R (am_prog scr) (d + 1) f_M_laysKept 44 [some (.inr (.inr ((109 : Nat) : Int))), some (.inl x1), some (.inl y6), none, none, none] [] h Q))))))) : am_R (am_prog scr) (d + 1) f_M_laysKept 116 [some (.inr (.inr ((109 : Nat) : Int))), some (.inl x1), some (.inl x2), some (.inl x3), some (.inl x4), some (.inl x5)] [] h Q := by
  have hp : ∀ k, (am_prog scr).1 f_M_laysKept k = c_M_laysKept k := fun _ => rfl
  refine am_R.next ((hp 116).trans rfl) rfl ?_
  refine r_getR ((hp 117).trans rfl) (hw.o (i := 109) (by decide) rfl) (hw.r wr_109_26) ?_
  refine am_R.next ((hp 120).trans rfl) rfl ?_
  obtain ⟨c1, H⟩ := H
  refine r_iald ((hp 121).trans rfl) (hw.a (i := 121) (by decide) rfl c1.1 c1.2) ?_
  refine am_R.next ((hp 122).trans rfl) rfl ?_
  refine r_ic ((hp 125).trans rfl) (fun c8 => ?_) (fun c8 => ?_)
  · have H := H.1 c8
    obtain ⟨y2, ey2⟩ : ∃ z : Int, z = am_w (x2 + 1) := ⟨_, rfl⟩
    have H := H y2 ey2
    refine am_R.next (lv' := [some (.inr (.inr ((109 : Nat) : Int))), some (.inl x1), some (.inl y2), some (.inl x3), some (.inl x4), some (.inl x5)]) (st' := []) (h' := h) (pc' := 152) ((hp 149).trans rfl) (by rw [ey2]; rfl) ?_
    refine am_R.next ((hp 152).trans rfl) rfl ?_
    exact r_le hs in_92 (le_k (le_k (le_k (le_d (le_d (le_d le_n)))))) H
  · have H := H.2 c8
    refine am_R.next ((hp 128).trans rfl) rfl ?_
    refine am_R.next ((hp 130).trans rfl) rfl ?_
    refine r_ic ((hp 133).trans rfl) (fun c7 => ?_) (fun c7 => ?_)
    · have H := H.1 c7
      refine am_R.next ((hp 139).trans rfl) rfl ?_
      refine r_getR ((hp 140).trans rfl) (hw.o (i := 109) (by decide) rfl) (hw.r wr_109_26) ?_
      refine am_R.next ((hp 143).trans rfl) rfl ?_
      refine am_R.next ((hp 144).trans rfl) rfl ?_
      obtain ⟨c3, H⟩ := H
      obtain ⟨h4, eh4⟩ : ∃ z : am_H, z = am_put h 121 x3.toNat x4 := ⟨_, rfl⟩
      have H := H h4 eh4
      refine r_iast ((hp 146).trans rfl) (hw.a (i := 121) (by decide) rfl c3.1 c3.2) ?_
      have hw : wf h4 := by rw [eh4]; exact hw.pa na_121
      change am_R _ _ _ _ _ _ (am_put h 121 x3.toNat x4) _
      rw [← eh4]
      refine am_R.next ((hp 147).trans rfl) rfl ?_
      refine am_R.next (lv' := [some (.inr (.inr ((109 : Nat) : Int))), some (.inl 1), some (.inl x2), some (.inl x3), some (.inl x4), some (.inl x5)]) ((hp 148).trans rfl) rfl ?_
      obtain ⟨y5, ey5⟩ : ∃ z : Int, z = am_w (x2 + 1) := ⟨_, rfl⟩
      have H := H y5 ey5
      refine am_R.next (lv' := [some (.inr (.inr ((109 : Nat) : Int))), some (.inl 1), some (.inl y5), some (.inl x3), some (.inl x4), some (.inl x5)]) (st' := []) (h' := h4) (pc' := 152) ((hp 149).trans rfl) (by rw [ey5]; rfl) ?_
      refine am_R.next ((hp 152).trans rfl) rfl ?_
      exact r_le hs in_92 (le_k (le_k (le_k (le_d (le_d (le_d le_n)))))) H
    · have H := H.2 (Decidable.not_not.mp c7)
      refine am_R.next ((hp 136).trans rfl) rfl ?_
      obtain ⟨y6, ey6⟩ : ∃ z : Int, z = am_w (x2 + 1) := ⟨_, rfl⟩
      have H := H y6 ey6
      refine am_R.next (lv' := [some (.inr (.inr ((109 : Nat) : Int))), some (.inl x1), some (.inl y6), some (.inl x3), some (.inl x4), some (.inl x5)]) (st' := []) (h' := h) (pc' := 152) ((hp 149).trans rfl) (by rw [ey6]; rfl) ?_
      refine am_R.next ((hp 152).trans rfl) rfl ?_
      exact r_le hs in_92 (le_k (le_k (le_k (le_d (le_d (le_d le_n)))))) H
theorem w_M_keeps_0 {scr : Nat × (Nat → Int)} {d : Nat} {h : am_H} {Q : Option am_V → am_H → Prop} (hs : am_sc scr) (hw : wf h) (H : ∀ h1 : am_H, h1 = am_put h 109 0 0 → (am_R (am_prog scr) d f_M_standNow 0 [some (.inr (.inr ((109 : Nat) : Int)))] [] h1 (fun v g2 => ∃ r3 : Int, v = some (.inl r3) ∧ wf g2 ∧ (am_R (am_prog scr) d f_M_isOver 0 [some (.inr (.inr ((109 : Nat) : Int))), some (.inl r3)] [] g2 (fun v g4 => ∃ r5 : Int, v = some (.inl r5) ∧ wf g4 ∧ ((r5 = 0 → (am_R (am_prog scr) d f_M_laysKept 0 [some (.inr (.inr ((109 : Nat) : Int))), none, none, none, none, none] [] g4 (fun v g6 => ∃ r7 : Int, v = some (.inl r7) ∧ wf g6 ∧ (am_R (am_prog scr) d f_M_toldFar 0 [some (.inl r7)] [] g6 (fun v g8 => ∃ r9 : Int, v = some (.inl r9) ∧ wf g8 ∧ (Q (some (.inl r9)) g8)))))) ∧ (¬ (r5 = 0) → (Q (some (.inl (-5))) g4)))))))) : am_R (am_prog scr) (d + 1) f_M_keeps 0 [some (.inr (.inr ((109 : Nat) : Int)))] [] h Q := by
  have hp : ∀ k, (am_prog scr).1 f_M_keeps k = c_M_keeps k := fun _ => rfl
  refine am_R.next ((hp 0).trans rfl) rfl ?_
  refine am_R.next ((hp 1).trans rfl) rfl ?_
  obtain ⟨h1, eh1⟩ : ∃ z : am_H, z = am_put h 109 0 0 := ⟨_, rfl⟩
  have H := H h1 eh1
  refine r_putI ((hp 2).trans rfl) (hw.o (i := 109) (by decide) rfl) ?_
  have hw : wf h1 := by rw [eh1]; exact hw.put np_109_0
  change am_R _ _ _ _ _ _ (am_put h 109 0 0) _
  rw [← eh1]
  refine am_R.next ((hp 5).trans rfl) rfl ?_
  refine am_R.next ((hp 6).trans rfl) rfl ?_
  refine r_cv (bs := []) (st' := [.inr (.inr ((109 : Nat) : Int))]) ((hp 7).trans rfl) (hw.o (i := 109) (by decide) rfl) rfl rfl (Nat.le_of_ble_eq_true rfl) (Nat.le_of_ble_eq_true rfl) (am_R.post H (fun v g2 hq => ?_))
  obtain ⟨r3, rfl, hw, H⟩ := hq
  change am_R _ _ _ _ _ [.inl r3, .inr (.inr ((109 : Nat) : Int))] _ _
  refine r_cv (bs := [.inl r3]) (st' := []) ((hp 10).trans rfl) (hw.o (i := 109) (by decide) rfl) rfl rfl (Nat.le_of_ble_eq_true rfl) (Nat.le_of_ble_eq_true rfl) (am_R.post H (fun v g4 hq => ?_))
  obtain ⟨r5, rfl, hw, H⟩ := hq
  change am_R _ _ _ _ _ [.inl r5] _ _
  refine r_if ((hp 13).trans rfl) (fun c10 => ?_) (fun c10 => ?_)
  · have H := H.1 c10
    refine am_R.next ((hp 21).trans rfl) rfl ?_
    refine r_cv (bs := []) (st' := []) ((hp 22).trans rfl) (hw.o (i := 109) (by decide) rfl) rfl rfl (Nat.le_of_ble_eq_true rfl) (Nat.le_of_ble_eq_true rfl) (am_R.post H (fun v g6 hq => ?_))
    obtain ⟨r7, rfl, hw, H⟩ := hq
    change am_R _ _ _ _ _ [.inl r7] _ _
    refine r_cs (as := [.inl r7]) (st' := []) ((hp 25).trans rfl) rfl rfl (Nat.le_of_ble_eq_true rfl) (Nat.le_of_ble_eq_true rfl) (am_R.post H (fun v g8 hq => ?_))
    obtain ⟨r9, rfl, hw, H⟩ := hq
    change am_R _ _ _ _ _ [.inl r9] _ _
    exact am_R.ret ((hp 28).trans rfl) rfl H
  · have H := H.2 c10
    refine am_R.next ((hp 16).trans rfl) rfl ?_
    refine am_R.next ((hp 18).trans rfl) rfl ?_
    exact am_R.ret ((hp 28).trans rfl) rfl H
theorem w_M_keeping_0 {scr : Nat × (Nat → Int)} {d : Nat} {h : am_H} {Q : Option am_V → am_H → Prop} {x1 : Int} (hs : am_sc scr) (hw : wf h) (H : ∀ h1 : am_H, h1 = am_put h 109 0 0 → (am_R (am_prog scr) d f_M_within 0 [some (.inr (.inl x1)), none, some (.inr (.inl 0)), none, some (.inr (.inl 99)), none] [] h1 (fun v g2 => ∃ r3 : Int, v = some (.inl r3) ∧ wf g2 ∧ ((¬ (r3 = 0) → (am_R (am_prog scr) d f_M_standNow 0 [some (.inr (.inr ((109 : Nat) : Int)))] [] g2 (fun v g4 => ∃ r5 : Int, v = some (.inl r5) ∧ wf g4 ∧ (am_R (am_prog scr) d f_M_isOver 0 [some (.inr (.inr ((109 : Nat) : Int))), some (.inl r5)] [] g4 (fun v g6 => ∃ r7 : Int, v = some (.inl r7) ∧ wf g6 ∧ ((r7 = 0 → (am_R (am_prog scr) d f_M_laysKept 0 [some (.inr (.inr ((109 : Nat) : Int))), none, none, none, none, none] [] g6 (fun v g8 => ∃ r9 : Int, v = some (.inl r9) ∧ wf g8 ∧ (am_R (am_prog scr) d f_M_standNow 0 [some (.inr (.inr ((109 : Nat) : Int)))] [] g8 (fun v g10 => ∃ r11 : Int, v = some (.inl r11) ∧ wf g10 ∧ (am_R (am_prog scr) (d + 1) f_M_keeping 46 [some (.inr (.inr ((109 : Nat) : Int))), some (.inl x1), some (.inl r11), some (.inl 0), none] [] g10 Q)))))) ∧ (¬ (r7 = 0) → (Q (some (.inl (-5))) g6)))))))) ∧ (r3 = 0 → (Q (some (.inl (-3))) g2)))))) : am_R (am_prog scr) (d + 1) f_M_keeping 0 [some (.inr (.inr ((109 : Nat) : Int))), some (.inl x1), none, none, none] [] h Q := by
  have hp : ∀ k, (am_prog scr).1 f_M_keeping k = c_M_keeping k := fun _ => rfl
  refine am_R.next ((hp 0).trans rfl) rfl ?_
  refine am_R.next ((hp 1).trans rfl) rfl ?_
  obtain ⟨h1, eh1⟩ : ∃ z : am_H, z = am_put h 109 0 0 := ⟨_, rfl⟩
  have H := H h1 eh1
  refine r_putI ((hp 2).trans rfl) (hw.o (i := 109) (by decide) rfl) ?_
  have hw : wf h1 := by rw [eh1]; exact hw.put np_109_0
  change am_R _ _ _ _ _ _ (am_put h 109 0 0) _
  rw [← eh1]
  refine am_R.next ((hp 5).trans rfl) rfl ?_
  refine am_R.next ((hp 6).trans rfl) rfl ?_
  refine am_R.next ((hp 7).trans rfl) rfl ?_
  refine am_R.next ((hp 8).trans rfl) rfl ?_
  refine r_cs (as := [.inr (.inl x1), .inr (.inl 0), .inr (.inl 99)]) (st' := []) ((hp 11).trans rfl) rfl rfl (Nat.le_of_ble_eq_true rfl) (Nat.le_of_ble_eq_true rfl) (am_R.post H (fun v g2 hq => ?_))
  obtain ⟨r3, rfl, hw, H⟩ := hq
  change am_R _ _ _ _ _ [.inl r3] _ _
  refine r_if ((hp 14).trans rfl) (fun c13 => ?_) (fun c13 => ?_)
  · have H := H.1 c13
    refine am_R.next ((hp 20).trans rfl) rfl ?_
    refine am_R.next ((hp 21).trans rfl) rfl ?_
    refine r_cv (bs := []) (st' := [.inr (.inr ((109 : Nat) : Int))]) ((hp 22).trans rfl) (hw.o (i := 109) (by decide) rfl) rfl rfl (Nat.le_of_ble_eq_true rfl) (Nat.le_of_ble_eq_true rfl) (am_R.post H (fun v g4 hq => ?_))
    obtain ⟨r5, rfl, hw, H⟩ := hq
    change am_R _ _ _ _ _ [.inl r5, .inr (.inr ((109 : Nat) : Int))] _ _
    refine r_cv (bs := [.inl r5]) (st' := []) ((hp 25).trans rfl) (hw.o (i := 109) (by decide) rfl) rfl rfl (Nat.le_of_ble_eq_true rfl) (Nat.le_of_ble_eq_true rfl) (am_R.post H (fun v g6 hq => ?_))
    obtain ⟨r7, rfl, hw, H⟩ := hq
    change am_R _ _ _ _ _ [.inl r7] _ _
    refine r_if ((hp 28).trans rfl) (fun c12 => ?_) (fun c12 => ?_)
    · have H := H.1 c12
      refine am_R.next ((hp 34).trans rfl) rfl ?_
      refine r_cv (bs := []) (st' := []) ((hp 35).trans rfl) (hw.o (i := 109) (by decide) rfl) rfl rfl (Nat.le_of_ble_eq_true rfl) (Nat.le_of_ble_eq_true rfl) (am_R.post H (fun v g8 hq => ?_))
      obtain ⟨r9, rfl, hw, H⟩ := hq
      change am_R _ _ _ _ _ [.inl r9] _ _
      refine am_R.next ((hp 38).trans rfl) rfl ?_
      refine am_R.next ((hp 39).trans rfl) rfl ?_
      refine r_cv (bs := []) (st' := []) ((hp 40).trans rfl) (hw.o (i := 109) (by decide) rfl) rfl rfl (Nat.le_of_ble_eq_true rfl) (Nat.le_of_ble_eq_true rfl) (am_R.post H (fun v g10 hq => ?_))
      obtain ⟨r11, rfl, hw, H⟩ := hq
      change am_R _ _ _ _ _ [.inl r11] _ _
      refine am_R.next (lv' := [some (.inr (.inr ((109 : Nat) : Int))), some (.inl x1), some (.inl r11), none, none]) ((hp 43).trans rfl) rfl ?_
      refine am_R.next ((hp 44).trans rfl) rfl ?_
      refine am_R.next (lv' := [some (.inr (.inr ((109 : Nat) : Int))), some (.inl x1), some (.inl r11), some (.inl 0), none]) ((hp 45).trans rfl) rfl ?_
      exact H
    · have H := H.2 c12
      refine am_R.next ((hp 31).trans rfl) rfl ?_
      exact am_R.ret ((hp 33).trans rfl) rfl H
  · have H := H.2 (Decidable.not_not.mp c13)
    refine am_R.next ((hp 17).trans rfl) rfl ?_
    exact am_R.ret ((hp 19).trans rfl) rfl H
theorem w_M_keeping_46 {scr : Nat × (Nat → Int)} {d : Nat} {h : am_H} {Q : Option am_V → am_H → Prop} {x1 x2 x3 : Int} (hs : am_sc scr) (hw : wf h) (H : (0 ≤ x2 ∧ x2 < 360) ∧ (((h.2.2.2 121 x2.toNat) ≤ 0 → (Q (some (.inl (-1))) h)) ∧ (¬ ((h.2.2.2 121 x2.toNat) ≤ 0) → (am_R (am_prog scr) (d + 1) f_M_keeping 58 [some (.inr (.inr ((109 : Nat) : Int))), some (.inl x1), some (.inl x2), some (.inl x3), some (.inl 0)] [] h Q)))) : am_R (am_prog scr) (d + 1) f_M_keeping 46 [some (.inr (.inr ((109 : Nat) : Int))), some (.inl x1), some (.inl x2), some (.inl x3), none] [] h Q := by
  have hp : ∀ k, (am_prog scr).1 f_M_keeping k = c_M_keeping k := fun _ => rfl
  refine am_R.next ((hp 46).trans rfl) rfl ?_
  refine r_getR ((hp 47).trans rfl) (hw.o (i := 109) (by decide) rfl) (hw.r wr_109_26) ?_
  refine am_R.next ((hp 50).trans rfl) rfl ?_
  obtain ⟨c1, H⟩ := H
  refine r_iald ((hp 51).trans rfl) (hw.a (i := 121) (by decide) rfl c1.1 c1.2) ?_
  refine r_if ((hp 52).trans rfl) (fun c2 => ?_) (fun c2 => ?_)
  · have H := H.1 c2
    refine am_R.next ((hp 107).trans rfl) rfl ?_
    exact am_R.ret ((hp 108).trans rfl) rfl H
  · have H := H.2 c2
    refine am_R.next ((hp 55).trans rfl) rfl ?_
    refine am_R.next (lv' := [some (.inr (.inr ((109 : Nat) : Int))), some (.inl x1), some (.inl x2), some (.inl x3), some (.inl 0)]) ((hp 56).trans rfl) rfl ?_
    exact H
theorem w_M_keeping_58 {scr : Nat × (Nat → Int)} {d : Nat} {h : am_H} {Q : Option am_V → am_H → Prop} {x1 x2 x3 x4 : Int} (hs : am_sc scr) (hw : wf h) (H : am_R (am_prog scr) d f_M_keptBy 0 [some (.inr (.inr ((109 : Nat) : Int))), some (.inl x2), some (.inl x4), none] [] h (fun v g1 => ∃ r2 : Int, v = some (.inl r2) ∧ wf g1 ∧ ((0 ≤ x2 ∧ x2 < 360) ∧ ((r2 = (g1.2.2.2 121 x2.toNat) → ((¬ (x3 = x1) → ((0 ≤ (am_w ((am_w (7 * x2)) + x4)) ∧ (am_w ((am_w (7 * x2)) + x4)) < 2520) ∧ (∀ y5 : Int, y5 = g1.2.2.2 120 ((am_w ((am_w (7 * x2)) + x4)).toNat) → (∀ y6 : Int, y6 = am_w (x3 + 1) → (am_R (am_prog scr) (d + 1) f_M_keeping 46 [some (.inr (.inr ((109 : Nat) : Int))), some (.inl x1), some (.inl y5), some (.inl y6), none] [] g1 Q))))) ∧ (x3 = x1 → (Q (some (.inl x4)) g1)))) ∧ (¬ (r2 = (g1.2.2.2 121 x2.toNat)) → (∀ y8 : Int, y8 = am_w (x4 + 1) → (am_R (am_prog scr) (d + 1) f_M_keeping 58 [some (.inr (.inr ((109 : Nat) : Int))), some (.inl x1), some (.inl x2), some (.inl x3), some (.inl y8)] [] g1 Q))))))) : am_R (am_prog scr) (d + 1) f_M_keeping 58 [some (.inr (.inr ((109 : Nat) : Int))), some (.inl x1), some (.inl x2), some (.inl x3), some (.inl x4)] [] h Q := by
  have hp : ∀ k, (am_prog scr).1 f_M_keeping k = c_M_keeping k := fun _ => rfl
  refine am_R.next ((hp 58).trans rfl) rfl ?_
  refine am_R.next ((hp 59).trans rfl) rfl ?_
  refine am_R.next ((hp 60).trans rfl) rfl ?_
  refine r_cv (bs := [.inl x2, .inl x4]) (st' := []) ((hp 62).trans rfl) (hw.o (i := 109) (by decide) rfl) rfl rfl (Nat.le_of_ble_eq_true rfl) (Nat.le_of_ble_eq_true rfl) (am_R.post H (fun v g1 hq => ?_))
  obtain ⟨r2, rfl, hw, H⟩ := hq
  change am_R _ _ _ _ _ [.inl r2] _ _
  refine am_R.next ((hp 65).trans rfl) rfl ?_
  refine r_getR ((hp 66).trans rfl) (hw.o (i := 109) (by decide) rfl) (hw.r wr_109_26) ?_
  refine am_R.next ((hp 69).trans rfl) rfl ?_
  obtain ⟨c3, H⟩ := H
  refine r_iald ((hp 70).trans rfl) (hw.a (i := 121) (by decide) rfl c3.1 c3.2) ?_
  refine r_ic ((hp 71).trans rfl) (fun c9 => ?_) (fun c9 => ?_)
  · have H := H.1 c9
    refine am_R.next ((hp 80).trans rfl) rfl ?_
    refine am_R.next ((hp 81).trans rfl) rfl ?_
    refine r_ic ((hp 82).trans rfl) (fun c7 => ?_) (fun c7 => ?_)
    · have H := H.1 c7
      refine am_R.next ((hp 88).trans rfl) rfl ?_
      refine r_getR ((hp 89).trans rfl) (hw.o (i := 109) (by decide) rfl) (hw.r wr_109_25) ?_
      refine am_R.next ((hp 92).trans rfl) rfl ?_
      refine am_R.next ((hp 94).trans rfl) rfl ?_
      refine am_R.next ((hp 95).trans rfl) rfl ?_
      refine am_R.next ((hp 96).trans rfl) rfl ?_
      refine am_R.next ((hp 98).trans rfl) rfl ?_
      obtain ⟨c4, H⟩ := H
      refine r_iald ((hp 99).trans rfl) (hw.a (i := 120) (by decide) rfl c4.1 c4.2) ?_
      obtain ⟨y5, ey5⟩ : ∃ z : Int, z = g1.2.2.2 120 ((am_w ((am_w (7 * x2)) + x4)).toNat) := ⟨_, rfl⟩
      have H := H y5 ey5
      refine am_R.next (lv' := [some (.inr (.inr ((109 : Nat) : Int))), some (.inl x1), some (.inl y5), some (.inl x3), some (.inl x4)]) (st' := []) (h' := g1) (pc' := 101) ((hp 100).trans rfl) (by rw [ey5]; rfl) ?_
      obtain ⟨y6, ey6⟩ : ∃ z : Int, z = am_w (x3 + 1) := ⟨_, rfl⟩
      have H := H y6 ey6
      refine am_R.next (lv' := [some (.inr (.inr ((109 : Nat) : Int))), some (.inl x1), some (.inl y5), some (.inl y6), some (.inl x4)]) (st' := []) (h' := g1) (pc' := 104) ((hp 101).trans rfl) (by rw [ey6]; rfl) ?_
      refine am_R.next ((hp 104).trans rfl) rfl ?_
      exact r_le hs in_94 (le_k (le_k (le_k (le_k (le_d le_n))))) H
    · have H := H.2 (Decidable.not_not.mp c7)
      refine am_R.next ((hp 85).trans rfl) rfl ?_
      exact am_R.ret ((hp 87).trans rfl) rfl H
  · have H := H.2 c9
    obtain ⟨y8, ey8⟩ : ∃ z : Int, z = am_w (x4 + 1) := ⟨_, rfl⟩
    have H := H y8 ey8
    refine am_R.next (lv' := [some (.inr (.inr ((109 : Nat) : Int))), some (.inl x1), some (.inl x2), some (.inl x3), some (.inl y8)]) (st' := []) (h' := g1) (pc' := 77) ((hp 74).trans rfl) (by rw [ey8]; rfl) ?_
    refine am_R.next ((hp 77).trans rfl) rfl ?_
    exact H
theorem w_M_heardOf_0 {scr : Nat × (Nat → Int)} {d : Nat} {h : am_H} {Q : Option am_V → am_H → Prop} (hs : am_sc scr) (hw : wf h) (H : ∀ h1 : am_H, h1 = am_put h 109 0 0 → (am_R (am_prog scr) d f_M_laysStands 0 [some (.inr (.inr ((109 : Nat) : Int))), none, none, none] [] h1 (fun v g2 => v = none ∧ wf g2 ∧ (am_R (am_prog scr) (d + 1) f_M_heardOf 13 [some (.inr (.inr ((109 : Nat) : Int))), some (.inl 0), some (.inl 0), none, none] [] g2 Q)))) : am_R (am_prog scr) (d + 1) f_M_heardOf 0 [some (.inr (.inr ((109 : Nat) : Int))), none, none, none, none] [] h Q := by
  have hp : ∀ k, (am_prog scr).1 f_M_heardOf k = c_M_heardOf k := fun _ => rfl
  refine am_R.next ((hp 0).trans rfl) rfl ?_
  refine am_R.next ((hp 1).trans rfl) rfl ?_
  obtain ⟨h1, eh1⟩ : ∃ z : am_H, z = am_put h 109 0 0 := ⟨_, rfl⟩
  have H := H h1 eh1
  refine r_putI ((hp 2).trans rfl) (hw.o (i := 109) (by decide) rfl) ?_
  have hw : wf h1 := by rw [eh1]; exact hw.put np_109_0
  change am_R _ _ _ _ _ _ (am_put h 109 0 0) _
  rw [← eh1]
  refine am_R.next ((hp 5).trans rfl) rfl ?_
  refine r_cv (bs := []) (st' := []) ((hp 6).trans rfl) (hw.o (i := 109) (by decide) rfl) rfl rfl (Nat.le_of_ble_eq_true rfl) (Nat.le_of_ble_eq_true rfl) (am_R.post H (fun v g2 hq => ?_))
  obtain ⟨rfl, hw, H⟩ := hq
  change am_R _ _ _ _ _ [] _ _
  refine am_R.next ((hp 9).trans rfl) rfl ?_
  refine am_R.next (lv' := [some (.inr (.inr ((109 : Nat) : Int))), some (.inl 0), none, none, none]) ((hp 10).trans rfl) rfl ?_
  refine am_R.next ((hp 11).trans rfl) rfl ?_
  refine am_R.next (lv' := [some (.inr (.inr ((109 : Nat) : Int))), some (.inl 0), some (.inl 0), none, none]) ((hp 12).trans rfl) rfl ?_
  exact H
theorem w_M_heardOf_13 {scr : Nat × (Nat → Int)} {d : Nat} {h : am_H} {Q : Option am_V → am_H → Prop} {x1 x2 : Int} (hs : am_sc scr) (hw : wf h) (H : (¬ (x2 < (h.2.2.2 109 29)) → (Q (some (.inl x1)) h)) ∧ (x2 < (h.2.2.2 109 29) → (am_R (am_prog scr) (d + 1) f_M_heardOf 23 [some (.inr (.inr ((109 : Nat) : Int))), some (.inl x1), some (.inl x2), some (.inl 0), none] [] h Q))) : am_R (am_prog scr) (d + 1) f_M_heardOf 13 [some (.inr (.inr ((109 : Nat) : Int))), some (.inl x1), some (.inl x2), none, none] [] h Q := by
  have hp : ∀ k, (am_prog scr).1 f_M_heardOf k = c_M_heardOf k := fun _ => rfl
  refine am_R.next ((hp 13).trans rfl) rfl ?_
  refine am_R.next ((hp 14).trans rfl) rfl ?_
  refine r_getI ((hp 15).trans rfl) (hw.o (i := 109) (by decide) rfl) ?_
  refine r_ic ((hp 18).trans rfl) (fun c1 => ?_) (fun c1 => ?_)
  · have H := H.1 c1
    refine am_R.next ((hp 86).trans rfl) rfl ?_
    exact am_R.ret ((hp 87).trans rfl) rfl H
  · have H := H.2 (Decidable.not_not.mp c1)
    refine am_R.next ((hp 21).trans rfl) rfl ?_
    refine am_R.next (lv' := [some (.inr (.inr ((109 : Nat) : Int))), some (.inl x1), some (.inl x2), some (.inl 0), none]) ((hp 22).trans rfl) rfl ?_
    exact H
theorem w_M_heardOf_23 {scr : Nat × (Nat → Int)} {d : Nat} {h : am_H} {Q : Option am_V → am_H → Prop} {x1 x2 x3 : Int} (hs : am_sc scr) (hw : wf h) (H : (¬ (x3 < 7) → (∀ y1 : Int, y1 = am_w (x2 + 1) → (am_R (am_prog scr) (d + 1) f_M_heardOf 13 [some (.inr (.inr ((109 : Nat) : Int))), some (.inl x1), some (.inl y1), none, none] [] h Q))) ∧ (x3 < 7 → ((0 ≤ x2 ∧ x2 < 360) ∧ ((0 ≤ (am_w ((am_w (7 * (h.2.2.2 119 x2.toNat))) + x3)) ∧ (am_w ((am_w (7 * (h.2.2.2 119 x2.toNat))) + x3)) < 2520) ∧ (∀ y4 : Int, y4 = h.2.2.2 120 ((am_w ((am_w (7 * (h.2.2.2 119 x2.toNat))) + x3)).toNat) → ((y4 = (-1) → (∀ y5 : Int, y5 = am_or x1 0 → (∀ y6 : Int, y6 = am_w (x3 + 1) → (am_R (am_prog scr) (d + 1) f_M_heardOf 23 [some (.inr (.inr ((109 : Nat) : Int))), some (.inl y5), some (.inl x2), some (.inl y6), none] [] h Q)))) ∧ (¬ (y4 = (-1)) → ((¬ ((y4.tmod 2) = 0) → (∀ y7 : Int, y7 = am_or x1 0 → (∀ y8 : Int, y8 = am_w (x3 + 1) → (am_R (am_prog scr) (d + 1) f_M_heardOf 23 [some (.inr (.inr ((109 : Nat) : Int))), some (.inl y7), some (.inl x2), some (.inl y8), none] [] h Q)))) ∧ ((y4.tmod 2) = 0 → (am_R (am_prog scr) d f_M_lastIn 0 [some (.inl y4)] [] h (fun v g9 => ∃ r10 : Int, v = some (.inl r10) ∧ wf g9 ∧ (∀ y11 : Int, y11 = am_or x1 (am_shl 1 r10) → (∀ y12 : Int, y12 = am_w (x3 + 1) → (am_R (am_prog scr) (d + 1) f_M_heardOf 23 [some (.inr (.inr ((109 : Nat) : Int))), some (.inl y11), some (.inl x2), some (.inl y12), none] [] g9 Q)))))))))))))) : am_R (am_prog scr) (d + 1) f_M_heardOf 23 [some (.inr (.inr ((109 : Nat) : Int))), some (.inl x1), some (.inl x2), some (.inl x3), none] [] h Q := by
  have hp : ∀ k, (am_prog scr).1 f_M_heardOf k = c_M_heardOf k := fun _ => rfl
  refine am_R.next ((hp 23).trans rfl) rfl ?_
  refine am_R.next ((hp 24).trans rfl) rfl ?_
  refine r_ic ((hp 26).trans rfl) (fun c15 => ?_) (fun c15 => ?_)
  · have H := H.1 c15
    obtain ⟨y1, ey1⟩ : ∃ z : Int, z = am_w (x2 + 1) := ⟨_, rfl⟩
    have H := H y1 ey1
    refine am_R.next (lv' := [some (.inr (.inr ((109 : Nat) : Int))), some (.inl x1), some (.inl y1), some (.inl x3), none]) (st' := []) (h' := h) (pc' := 83) ((hp 80).trans rfl) (by rw [ey1]; rfl) ?_
    refine am_R.next ((hp 83).trans rfl) rfl ?_
    exact r_le hs in_95 (le_k (le_k (le_k (le_d (le_k le_n))))) H
  · have H := H.2 (Decidable.not_not.mp c15)
    refine am_R.next ((hp 29).trans rfl) rfl ?_
    refine r_getR ((hp 30).trans rfl) (hw.o (i := 109) (by decide) rfl) (hw.r wr_109_25) ?_
    refine am_R.next ((hp 33).trans rfl) rfl ?_
    refine am_R.next ((hp 35).trans rfl) rfl ?_
    refine r_getR ((hp 36).trans rfl) (hw.o (i := 109) (by decide) rfl) (hw.r wr_109_24) ?_
    refine am_R.next ((hp 39).trans rfl) rfl ?_
    obtain ⟨c2, H⟩ := H
    refine r_iald ((hp 40).trans rfl) (hw.a (i := 119) (by decide) rfl c2.1 c2.2) ?_
    refine am_R.next ((hp 41).trans rfl) rfl ?_
    refine am_R.next ((hp 42).trans rfl) rfl ?_
    refine am_R.next ((hp 43).trans rfl) rfl ?_
    obtain ⟨c3, H⟩ := H
    refine r_iald ((hp 44).trans rfl) (hw.a (i := 120) (by decide) rfl c3.1 c3.2) ?_
    obtain ⟨y4, ey4⟩ : ∃ z : Int, z = h.2.2.2 120 ((am_w ((am_w (7 * (h.2.2.2 119 x2.toNat))) + x3)).toNat) := ⟨_, rfl⟩
    have H := H y4 ey4
    refine am_R.next (lv' := [some (.inr (.inr ((109 : Nat) : Int))), some (.inl x1), some (.inl x2), some (.inl x3), some (.inl y4)]) (st' := []) (h' := h) (pc' := 47) ((hp 45).trans rfl) (by rw [ey4]; rfl) ?_
    refine am_R.next ((hp 47).trans rfl) rfl ?_
    refine am_R.next ((hp 48).trans rfl) rfl ?_
    refine am_R.next ((hp 50).trans rfl) rfl ?_
    refine r_ic ((hp 51).trans rfl) (fun c14 => ?_) (fun c14 => ?_)
    · have H := H.1 c14
      refine am_R.next ((hp 71).trans rfl) rfl ?_
      refine am_R.next ((hp 72).trans rfl) rfl ?_
      obtain ⟨y5, ey5⟩ : ∃ z : Int, z = am_or x1 0 := ⟨_, rfl⟩
      have H := H y5 ey5
      refine am_R.next (lv' := [some (.inr (.inr ((109 : Nat) : Int))), some (.inl y5), some (.inl x2), some (.inl x3), some (.inl y4)]) (st' := []) (h' := h) (pc' := 74) ((hp 73).trans rfl) (by rw [ey5]; rfl) ?_
      obtain ⟨y6, ey6⟩ : ∃ z : Int, z = am_w (x3 + 1) := ⟨_, rfl⟩
      have H := H y6 ey6
      refine am_R.next (lv' := [some (.inr (.inr ((109 : Nat) : Int))), some (.inl y5), some (.inl x2), some (.inl y6), some (.inl y4)]) (st' := []) (h' := h) (pc' := 77) ((hp 74).trans rfl) (by rw [ey6]; rfl) ?_
      refine am_R.next ((hp 77).trans rfl) rfl ?_
      exact r_le hs in_95 (le_k (le_k (le_k (le_k (le_d le_n))))) H
    · have H := H.2 c14
      refine am_R.next ((hp 54).trans rfl) rfl ?_
      refine am_R.next ((hp 56).trans rfl) rfl ?_
      refine r_i2z ((hp 57).trans rfl) (by decide) ?_
      refine r_if ((hp 58).trans rfl) (fun c13 => ?_) (fun c13 => ?_)
      · have H := H.1 c13
        refine am_R.next ((hp 71).trans rfl) rfl ?_
        refine am_R.next ((hp 72).trans rfl) rfl ?_
        obtain ⟨y7, ey7⟩ : ∃ z : Int, z = am_or x1 0 := ⟨_, rfl⟩
        have H := H y7 ey7
        refine am_R.next (lv' := [some (.inr (.inr ((109 : Nat) : Int))), some (.inl y7), some (.inl x2), some (.inl x3), some (.inl y4)]) (st' := []) (h' := h) (pc' := 74) ((hp 73).trans rfl) (by rw [ey7]; rfl) ?_
        obtain ⟨y8, ey8⟩ : ∃ z : Int, z = am_w (x3 + 1) := ⟨_, rfl⟩
        have H := H y8 ey8
        refine am_R.next (lv' := [some (.inr (.inr ((109 : Nat) : Int))), some (.inl y7), some (.inl x2), some (.inl y8), some (.inl y4)]) (st' := []) (h' := h) (pc' := 77) ((hp 74).trans rfl) (by rw [ey8]; rfl) ?_
        refine am_R.next ((hp 77).trans rfl) rfl ?_
        exact r_le hs in_95 (le_k (le_k (le_k (le_k (le_d le_n))))) H
      · have H := H.2 (Decidable.not_not.mp c13)
        refine am_R.next ((hp 61).trans rfl) rfl ?_
        refine am_R.next ((hp 62).trans rfl) rfl ?_
        refine r_cs (as := [.inl y4]) (st' := [.inl 1, .inl x1]) ((hp 64).trans rfl) rfl rfl (Nat.le_of_ble_eq_true rfl) (Nat.le_of_ble_eq_true rfl) (am_R.post H (fun v g9 hq => ?_))
        obtain ⟨r10, rfl, hw, H⟩ := hq
        change am_R _ _ _ _ _ [.inl r10, .inl 1, .inl x1] _ _
        refine am_R.next ((hp 67).trans rfl) rfl ?_
        refine am_R.next ((hp 68).trans rfl) rfl ?_
        refine am_R.next ((hp 72).trans rfl) rfl ?_
        obtain ⟨y11, ey11⟩ : ∃ z : Int, z = am_or x1 (am_shl 1 r10) := ⟨_, rfl⟩
        have H := H y11 ey11
        refine am_R.next (lv' := [some (.inr (.inr ((109 : Nat) : Int))), some (.inl y11), some (.inl x2), some (.inl x3), some (.inl y4)]) (st' := []) (h' := g9) (pc' := 74) ((hp 73).trans rfl) (by rw [ey11]; rfl) ?_
        obtain ⟨y12, ey12⟩ : ∃ z : Int, z = am_w (x3 + 1) := ⟨_, rfl⟩
        have H := H y12 ey12
        refine am_R.next (lv' := [some (.inr (.inr ((109 : Nat) : Int))), some (.inl y11), some (.inl x2), some (.inl y12), some (.inl y4)]) (st' := []) (h' := g9) (pc' := 77) ((hp 74).trans rfl) (by rw [ey12]; rfl) ?_
        refine am_R.next ((hp 77).trans rfl) rfl ?_
        exact r_le hs in_95 (le_k (le_k (le_k (le_k (le_d le_n))))) H
theorem w_M_goesPlace_0 {scr : Nat × (Nat → Int)} {d : Nat} {h : am_H} {Q : Option am_V → am_H → Prop} {x1 x2 : Int} (hs : am_sc scr) (hw : wf h) (H : (¬ (x1 = (h.2.2.2 110 4)) → (am_R (am_prog scr) (d + 1) f_M_goesPlace 73 [some (.inr (.inr ((109 : Nat) : Int))), some (.inl x1), some (.inl x2), some (.inl 0)] [] h Q)) ∧ (x1 = (h.2.2.2 110 4) → (am_R (am_prog scr) d f_M_goesHow 0 [some (.inr (.inr ((109 : Nat) : Int)))] [] h (fun v g1 => ∃ r2 : Int, v = some (.inl r2) ∧ wf g1 ∧ ((¬ (r2 = 0) → (Q none g1)) ∧ (r2 = 0 → (((am_w ((g1.2.2.2 109 22) - 1)) < (g1.2.2.2 109 34) → (∀ h3 : am_H, h3 = am_put g1 109 34 (am_w ((g1.2.2.2 109 22) - 1)) → (am_R (am_prog scr) (d + 1) f_M_goesPlace 43 [some (.inr (.inr ((109 : Nat) : Int))), some (.inl x1), some (.inl x2), some (.inl 0)] [] h3 Q))) ∧ (¬ ((am_w ((g1.2.2.2 109 22) - 1)) < (g1.2.2.2 109 34)) → (Q none g1))))))))) : am_R (am_prog scr) (d + 1) f_M_goesPlace 0 [some (.inr (.inr ((109 : Nat) : Int))), some (.inl x1), some (.inl x2), none] [] h Q := by
  have hp : ∀ k, (am_prog scr).1 f_M_goesPlace k = c_M_goesPlace k := fun _ => rfl
  refine am_R.next ((hp 0).trans rfl) rfl ?_
  refine am_R.next ((hp 1).trans rfl) rfl ?_
  refine r_getR ((hp 2).trans rfl) (hw.o (i := 109) (by decide) rfl) (hw.r wr_109_1) ?_
  refine am_R.next ((hp 5).trans rfl) rfl ?_
  refine r_iald ((hp 6).trans rfl) (hw.a (i := 110) (by decide) rfl (by decide) (by decide)) ?_
  refine r_ic ((hp 7).trans rfl) (fun c6 => ?_) (fun c6 => ?_)
  · have H := H.1 c6
    refine am_R.next ((hp 71).trans rfl) rfl ?_
    refine am_R.next (lv' := [some (.inr (.inr ((109 : Nat) : Int))), some (.inl x1), some (.inl x2), some (.inl 0)]) ((hp 72).trans rfl) rfl ?_
    exact H
  · have H := H.2 (Decidable.not_not.mp c6)
    refine am_R.next ((hp 10).trans rfl) rfl ?_
    refine r_cv (bs := []) (st' := []) ((hp 11).trans rfl) (hw.o (i := 109) (by decide) rfl) rfl rfl (Nat.le_of_ble_eq_true rfl) (Nat.le_of_ble_eq_true rfl) (am_R.post H (fun v g1 hq => ?_))
    obtain ⟨r2, rfl, hw, H⟩ := hq
    change am_R _ _ _ _ _ [.inl r2] _ _
    refine r_if ((hp 14).trans rfl) (fun c5 => ?_) (fun c5 => ?_)
    · have H := H.1 c5
      exact am_R.ret ((hp 30).trans rfl) rfl H
    · have H := H.2 (Decidable.not_not.mp c5)
      refine am_R.next ((hp 17).trans rfl) rfl ?_
      refine r_getI ((hp 18).trans rfl) (hw.o (i := 109) (by decide) rfl) ?_
      refine am_R.next ((hp 21).trans rfl) rfl ?_
      refine am_R.next ((hp 22).trans rfl) rfl ?_
      refine am_R.next ((hp 23).trans rfl) rfl ?_
      refine r_getI ((hp 24).trans rfl) (hw.o (i := 109) (by decide) rfl) ?_
      refine r_ic ((hp 27).trans rfl) (fun c4 => ?_) (fun c4 => ?_)
      · have H := H.1 c4
        refine am_R.next ((hp 31).trans rfl) rfl ?_
        refine am_R.next ((hp 32).trans rfl) rfl ?_
        refine r_getI ((hp 33).trans rfl) (hw.o (i := 109) (by decide) rfl) ?_
        refine am_R.next ((hp 36).trans rfl) rfl ?_
        refine am_R.next ((hp 37).trans rfl) rfl ?_
        obtain ⟨h3, eh3⟩ : ∃ z : am_H, z = am_put g1 109 34 (am_w ((g1.2.2.2 109 22) - 1)) := ⟨_, rfl⟩
        have H := H h3 eh3
        refine r_putI ((hp 38).trans rfl) (hw.o (i := 109) (by decide) rfl) ?_
        have hw : wf h3 := by rw [eh3]; exact hw.put np_109_34
        change am_R _ _ _ _ _ _ (am_put g1 109 34 (am_w ((g1.2.2.2 109 22) - 1))) _
        rw [← eh3]
        refine am_R.next ((hp 41).trans rfl) rfl ?_
        refine am_R.next (lv' := [some (.inr (.inr ((109 : Nat) : Int))), some (.inl x1), some (.inl x2), some (.inl 0)]) ((hp 42).trans rfl) rfl ?_
        exact H
      · have H := H.2 c4
        exact am_R.ret ((hp 30).trans rfl) rfl H
theorem w_M_goesPlace_43 {scr : Nat × (Nat → Int)} {d : Nat} {h : am_H} {Q : Option am_V → am_H → Prop} {x1 x2 x3 : Int} (hs : am_sc scr) (hw : wf h) (H : (¬ (x3 < 6) → (Q none h)) ∧ (x3 < 6 → ((0 ≤ (am_w (16 + x3)) ∧ (am_w (16 + x3)) < 3336) ∧ (((0 ≤ x3 ∧ x3 < 6)) ∧ (∀ h3 : am_H, h3 = am_put h 127 x3.toNat (h.2.2.2 110 ((am_w (16 + x3)).toNat)) → (∀ y4 : Int, y4 = am_w (x3 + 1) → (am_R (am_prog scr) (d + 1) f_M_goesPlace 43 [some (.inr (.inr ((109 : Nat) : Int))), some (.inl x1), some (.inl x2), some (.inl y4)] [] h3 Q))))))) : am_R (am_prog scr) (d + 1) f_M_goesPlace 43 [some (.inr (.inr ((109 : Nat) : Int))), some (.inl x1), some (.inl x2), some (.inl x3)] [] h Q := by
  have hp : ∀ k, (am_prog scr).1 f_M_goesPlace k = c_M_goesPlace k := fun _ => rfl
  refine am_R.next ((hp 43).trans rfl) rfl ?_
  refine am_R.next ((hp 44).trans rfl) rfl ?_
  refine r_ic ((hp 46).trans rfl) (fun c5 => ?_) (fun c5 => ?_)
  · have H := H.1 c5
    exact am_R.ret ((hp 70).trans rfl) rfl H
  · have H := H.2 (Decidable.not_not.mp c5)
    refine am_R.next ((hp 49).trans rfl) rfl ?_
    refine r_getR ((hp 50).trans rfl) (hw.o (i := 109) (by decide) rfl) (hw.r wr_109_33) ?_
    refine am_R.next ((hp 53).trans rfl) rfl ?_
    refine am_R.next ((hp 54).trans rfl) rfl ?_
    refine r_getR ((hp 55).trans rfl) (hw.o (i := 109) (by decide) rfl) (hw.r wr_109_1) ?_
    refine am_R.next ((hp 58).trans rfl) rfl ?_
    refine am_R.next ((hp 60).trans rfl) rfl ?_
    refine am_R.next ((hp 61).trans rfl) rfl ?_
    obtain ⟨c1, H⟩ := H
    refine r_iald ((hp 62).trans rfl) (hw.a (i := 110) (by decide) rfl c1.1 c1.2) ?_
    obtain ⟨c2, H⟩ := H
    obtain ⟨h3, eh3⟩ : ∃ z : am_H, z = am_put h 127 x3.toNat (h.2.2.2 110 ((am_w (16 + x3)).toNat)) := ⟨_, rfl⟩
    have H := H h3 eh3
    refine r_iast ((hp 63).trans rfl) (hw.a (i := 127) (by decide) rfl c2.1 c2.2) ?_
    have hw : wf h3 := by rw [eh3]; exact hw.pa na_127
    change am_R _ _ _ _ _ _ (am_put h 127 x3.toNat (h.2.2.2 110 ((am_w (16 + x3)).toNat))) _
    rw [← eh3]
    obtain ⟨y4, ey4⟩ : ∃ z : Int, z = am_w (x3 + 1) := ⟨_, rfl⟩
    have H := H y4 ey4
    refine am_R.next (lv' := [some (.inr (.inr ((109 : Nat) : Int))), some (.inl x1), some (.inl x2), some (.inl y4)]) (st' := []) (h' := h3) (pc' := 67) ((hp 64).trans rfl) (by rw [ey4]; rfl) ?_
    refine am_R.next ((hp 67).trans rfl) rfl ?_
    exact H
theorem w_M_goesPlace_73 {scr : Nat × (Nat → Int)} {d : Nat} {h : am_H} {Q : Option am_V → am_H → Prop} {x1 x2 x3 : Int} (hs : am_sc scr) (hw : wf h) (H : (¬ (x3 < (h.2.2.2 110 1)) → (Q none h)) ∧ (x3 < (h.2.2.2 110 1) → (am_R (am_prog scr) d f_M_isIn 0 [some (.inr (.inl x2)), none, some (.inl x3)] [] h (fun v g1 => ∃ r2 : Int, v = some (.inl r2) ∧ wf g1 ∧ ((¬ (r2 = 0) → (∀ y3 : Int, y3 = am_w (x3 + 1) → (am_R (am_prog scr) (d + 1) f_M_goesPlace 73 [some (.inr (.inr ((109 : Nat) : Int))), some (.inl x1), some (.inl x2), some (.inl y3)] [] g1 Q))) ∧ (r2 = 0 → (am_R (am_prog scr) d f_M_isNowBed 0 [some (.inr (.inr ((109 : Nat) : Int))), some (.inl x3), none] [] g1 (fun v g4 => ∃ r5 : Int, v = some (.inl r5) ∧ wf g4 ∧ ((¬ (r5 = 0) → (((0 ≤ (am_w (16 + x1)) ∧ (am_w (16 + x1)) < 3336)) ∧ (∀ h7 : am_H, h7 = am_put g4 110 ((am_w (16 + x1)).toNat) x3 → (am_R (am_prog scr) d f_M_goesPlace 0 [some (.inr (.inr ((109 : Nat) : Int))), some (.inl (am_w (x1 + 1))), some (.inl (am_or x2 (am_shl 1 x3))), none] [] h7 (fun v g8 => v = none ∧ wf g8 ∧ (∀ y9 : Int, y9 = am_w (x3 + 1) → (am_R (am_prog scr) (d + 1) f_M_goesPlace 73 [some (.inr (.inr ((109 : Nat) : Int))), some (.inl x1), some (.inl x2), some (.inl y9)] [] g8 Q))))))) ∧ (r5 = 0 → (∀ y10 : Int, y10 = am_w (x3 + 1) → (am_R (am_prog scr) (d + 1) f_M_goesPlace 73 [some (.inr (.inr ((109 : Nat) : Int))), some (.inl x1), some (.inl x2), some (.inl y10)] [] g4 Q)))))))))))) : am_R (am_prog scr) (d + 1) f_M_goesPlace 73 [some (.inr (.inr ((109 : Nat) : Int))), some (.inl x1), some (.inl x2), some (.inl x3)] [] h Q := by
  have hp : ∀ k, (am_prog scr).1 f_M_goesPlace k = c_M_goesPlace k := fun _ => rfl
  refine am_R.next ((hp 73).trans rfl) rfl ?_
  refine am_R.next ((hp 74).trans rfl) rfl ?_
  refine r_getR ((hp 75).trans rfl) (hw.o (i := 109) (by decide) rfl) (hw.r wr_109_1) ?_
  refine am_R.next ((hp 78).trans rfl) rfl ?_
  refine r_iald ((hp 79).trans rfl) (hw.a (i := 110) (by decide) rfl (by decide) (by decide)) ?_
  refine r_ic ((hp 80).trans rfl) (fun c13 => ?_) (fun c13 => ?_)
  · have H := H.1 c13
    exact am_R.ret ((hp 131).trans rfl) rfl H
  · have H := H.2 (Decidable.not_not.mp c13)
    refine am_R.next ((hp 83).trans rfl) rfl ?_
    refine am_R.next ((hp 84).trans rfl) rfl ?_
    refine am_R.next ((hp 85).trans rfl) rfl ?_
    refine r_cs (as := [.inr (.inl x2), .inl x3]) (st' := []) ((hp 86).trans rfl) rfl rfl (Nat.le_of_ble_eq_true rfl) (Nat.le_of_ble_eq_true rfl) (am_R.post H (fun v g1 hq => ?_))
    obtain ⟨r2, rfl, hw, H⟩ := hq
    change am_R _ _ _ _ _ [.inl r2] _ _
    refine r_if ((hp 89).trans rfl) (fun c12 => ?_) (fun c12 => ?_)
    · have H := H.1 c12
      obtain ⟨y3, ey3⟩ : ∃ z : Int, z = am_w (x3 + 1) := ⟨_, rfl⟩
      have H := H y3 ey3
      refine am_R.next (lv' := [some (.inr (.inr ((109 : Nat) : Int))), some (.inl x1), some (.inl x2), some (.inl y3)]) (st' := []) (h' := g1) (pc' := 128) ((hp 125).trans rfl) (by rw [ey3]; rfl) ?_
      refine am_R.next ((hp 128).trans rfl) rfl ?_
      exact H
    · have H := H.2 (Decidable.not_not.mp c12)
      refine am_R.next ((hp 92).trans rfl) rfl ?_
      refine am_R.next ((hp 93).trans rfl) rfl ?_
      refine r_cv (bs := [.inl x3]) (st' := []) ((hp 94).trans rfl) (hw.o (i := 109) (by decide) rfl) rfl rfl (Nat.le_of_ble_eq_true rfl) (Nat.le_of_ble_eq_true rfl) (am_R.post H (fun v g4 hq => ?_))
      obtain ⟨r5, rfl, hw, H⟩ := hq
      change am_R _ _ _ _ _ [.inl r5] _ _
      refine r_if ((hp 97).trans rfl) (fun c11 => ?_) (fun c11 => ?_)
      · have H := H.1 c11
        refine am_R.next ((hp 103).trans rfl) rfl ?_
        refine r_getR ((hp 104).trans rfl) (hw.o (i := 109) (by decide) rfl) (hw.r wr_109_1) ?_
        refine am_R.next ((hp 107).trans rfl) rfl ?_
        refine am_R.next ((hp 109).trans rfl) rfl ?_
        refine am_R.next ((hp 110).trans rfl) rfl ?_
        refine am_R.next ((hp 111).trans rfl) rfl ?_
        obtain ⟨c6, H⟩ := H
        obtain ⟨h7, eh7⟩ : ∃ z : am_H, z = am_put g4 110 ((am_w (16 + x1)).toNat) x3 := ⟨_, rfl⟩
        have H := H h7 eh7
        refine r_iast ((hp 112).trans rfl) (hw.a (i := 110) (by decide) rfl c6.1 c6.2) ?_
        have hw : wf h7 := by rw [eh7]; exact hw.pa na_110
        change am_R _ _ _ _ _ _ (am_put g4 110 ((am_w (16 + x1)).toNat) x3) _
        rw [← eh7]
        refine am_R.next ((hp 113).trans rfl) rfl ?_
        refine am_R.next ((hp 114).trans rfl) rfl ?_
        refine am_R.next ((hp 115).trans rfl) rfl ?_
        refine am_R.next ((hp 116).trans rfl) rfl ?_
        refine am_R.next ((hp 117).trans rfl) rfl ?_
        refine am_R.next ((hp 118).trans rfl) rfl ?_
        refine am_R.next ((hp 119).trans rfl) rfl ?_
        refine am_R.next ((hp 120).trans rfl) rfl ?_
        refine am_R.next ((hp 121).trans rfl) rfl ?_
        refine r_cv (bs := [.inl (am_w (x1 + 1)), .inl (am_or x2 (am_shl 1 x3))]) (st' := []) ((hp 122).trans rfl) (hw.o (i := 109) (by decide) rfl) rfl rfl (Nat.le_of_ble_eq_true rfl) (Nat.le_of_ble_eq_true rfl) (am_R.post H (fun v g8 hq => ?_))
        obtain ⟨rfl, hw, H⟩ := hq
        change am_R _ _ _ _ _ [] _ _
        obtain ⟨y9, ey9⟩ : ∃ z : Int, z = am_w (x3 + 1) := ⟨_, rfl⟩
        have H := H y9 ey9
        refine am_R.next (lv' := [some (.inr (.inr ((109 : Nat) : Int))), some (.inl x1), some (.inl x2), some (.inl y9)]) (st' := []) (h' := g8) (pc' := 128) ((hp 125).trans rfl) (by rw [ey9]; rfl) ?_
        refine am_R.next ((hp 128).trans rfl) rfl ?_
        exact H
      · have H := H.2 (Decidable.not_not.mp c11)
        refine am_R.next ((hp 100).trans rfl) rfl ?_
        obtain ⟨y10, ey10⟩ : ∃ z : Int, z = am_w (x3 + 1) := ⟨_, rfl⟩
        have H := H y10 ey10
        refine am_R.next (lv' := [some (.inr (.inr ((109 : Nat) : Int))), some (.inl x1), some (.inl x2), some (.inl y10)]) (st' := []) (h' := g4) (pc' := 128) ((hp 125).trans rfl) (by rw [ey10]; rfl) ?_
        refine am_R.next ((hp 128).trans rfl) rfl ?_
        exact H
theorem w_M_isNowBed_0 {scr : Nat × (Nat → Int)} {d : Nat} {h : am_H} {Q : Option am_V → am_H → Prop} {x1 : Int} (hs : am_sc scr) (hw : wf h) (H : am_R (am_prog scr) d f_M_isNowBed 2 [some (.inr (.inr ((109 : Nat) : Int))), some (.inl x1), some (.inl 0)] [] h Q) : am_R (am_prog scr) d f_M_isNowBed 0 [some (.inr (.inr ((109 : Nat) : Int))), some (.inl x1), none] [] h Q := by
  have hp : ∀ k, (am_prog scr).1 f_M_isNowBed k = c_M_isNowBed k := fun _ => rfl
  refine am_R.next ((hp 0).trans rfl) rfl ?_
  refine am_R.next (lv' := [some (.inr (.inr ((109 : Nat) : Int))), some (.inl x1), some (.inl 0)]) ((hp 1).trans rfl) rfl ?_
  exact H
theorem w_M_isNowBed_2 {scr : Nat × (Nat → Int)} {d : Nat} {h : am_H} {Q : Option am_V → am_H → Prop} {x1 x2 : Int} (hs : am_sc scr) (hw : wf h) (H : (¬ (x2 < (h.2.2.2 110 4)) → (Q (some (.inl 0)) h)) ∧ (x2 < (h.2.2.2 110 4) → ((0 ≤ x2 ∧ x2 < 6) ∧ ((¬ ((h.2.2.2 126 x2.toNat) = x1) → (∀ y2 : Int, y2 = am_w (x2 + 1) → (am_R (am_prog scr) d f_M_isNowBed 2 [some (.inr (.inr ((109 : Nat) : Int))), some (.inl x1), some (.inl y2)] [] h Q))) ∧ ((h.2.2.2 126 x2.toNat) = x1 → (Q (some (.inl 1)) h)))))) : am_R (am_prog scr) d f_M_isNowBed 2 [some (.inr (.inr ((109 : Nat) : Int))), some (.inl x1), some (.inl x2)] [] h Q := by
  have hp : ∀ k, (am_prog scr).1 f_M_isNowBed k = c_M_isNowBed k := fun _ => rfl
  refine am_R.next ((hp 2).trans rfl) rfl ?_
  refine am_R.next ((hp 3).trans rfl) rfl ?_
  refine r_getR ((hp 4).trans rfl) (hw.o (i := 109) (by decide) rfl) (hw.r wr_109_1) ?_
  refine am_R.next ((hp 7).trans rfl) rfl ?_
  refine r_iald ((hp 8).trans rfl) (hw.a (i := 110) (by decide) rfl (by decide) (by decide)) ?_
  refine r_ic ((hp 9).trans rfl) (fun c4 => ?_) (fun c4 => ?_)
  · have H := H.1 c4
    refine am_R.next ((hp 30).trans rfl) rfl ?_
    exact r_zret ((hp 31).trans rfl) (Or.inl rfl) H
  · have H := H.2 (Decidable.not_not.mp c4)
    refine am_R.next ((hp 12).trans rfl) rfl ?_
    refine r_getR ((hp 13).trans rfl) (hw.o (i := 109) (by decide) rfl) (hw.r wr_109_32) ?_
    refine am_R.next ((hp 16).trans rfl) rfl ?_
    obtain ⟨c1, H⟩ := H
    refine r_iald ((hp 17).trans rfl) (hw.a (i := 126) (by decide) rfl c1.1 c1.2) ?_
    refine am_R.next ((hp 18).trans rfl) rfl ?_
    refine r_ic ((hp 19).trans rfl) (fun c3 => ?_) (fun c3 => ?_)
    · have H := H.1 c3
      obtain ⟨y2, ey2⟩ : ∃ z : Int, z = am_w (x2 + 1) := ⟨_, rfl⟩
      have H := H y2 ey2
      refine am_R.next (lv' := [some (.inr (.inr ((109 : Nat) : Int))), some (.inl x1), some (.inl y2)]) (st' := []) (h' := h) (pc' := 27) ((hp 24).trans rfl) (by rw [ey2]; rfl) ?_
      refine am_R.next ((hp 27).trans rfl) rfl ?_
      exact H
    · have H := H.2 (Decidable.not_not.mp c3)
      refine am_R.next ((hp 22).trans rfl) rfl ?_
      exact r_zret ((hp 23).trans rfl) (Or.inr rfl) H
theorem w_M_placing_0 {scr : Nat × (Nat → Int)} {d : Nat} {h : am_H} {Q : Option am_V → am_H → Prop} {x1 : Int} (hs : am_sc scr) (hw : wf h) (H : ∀ h1 : am_H, h1 = am_put h 109 0 0 → ((x1 = 0 → (am_R (am_prog scr) (d + 1) f_M_placing 32 [some (.inr (.inr ((109 : Nat) : Int))), some (.inl x1), some (.inl 0)] [] h1 Q)) ∧ (¬ (x1 = 0) → ((x1 < 10 → (Q (some (.inl (-2))) h1)) ∧ (¬ (x1 < 10) → (am_R (am_prog scr) d f_M_isSleeper 0 [some (.inr (.inr ((109 : Nat) : Int))), some (.inr (.inl (am_w (x1 - 10)))), none] [] h1 (fun v g2 => ∃ r3 : Int, v = some (.inl r3) ∧ wf g2 ∧ ((¬ (r3 = 0) → (am_R (am_prog scr) (d + 1) f_M_placing 32 [some (.inr (.inr ((109 : Nat) : Int))), some (.inl x1), some (.inl 0)] [] g2 Q)) ∧ (r3 = 0 → (Q (some (.inl (-2))) g2)))))))))) : am_R (am_prog scr) (d + 1) f_M_placing 0 [some (.inr (.inr ((109 : Nat) : Int))), some (.inl x1), none] [] h Q := by
  have hp : ∀ k, (am_prog scr).1 f_M_placing k = c_M_placing k := fun _ => rfl
  refine am_R.next ((hp 0).trans rfl) rfl ?_
  refine am_R.next ((hp 1).trans rfl) rfl ?_
  obtain ⟨h1, eh1⟩ : ∃ z : am_H, z = am_put h 109 0 0 := ⟨_, rfl⟩
  have H := H h1 eh1
  refine r_putI ((hp 2).trans rfl) (hw.o (i := 109) (by decide) rfl) ?_
  have hw : wf h1 := by rw [eh1]; exact hw.put np_109_0
  change am_R _ _ _ _ _ _ (am_put h 109 0 0) _
  rw [← eh1]
  refine am_R.next ((hp 5).trans rfl) rfl ?_
  refine r_if ((hp 6).trans rfl) (fun c6 => ?_) (fun c6 => ?_)
  · have H := H.1 c6
    refine am_R.next ((hp 30).trans rfl) rfl ?_
    refine am_R.next (lv' := [some (.inr (.inr ((109 : Nat) : Int))), some (.inl x1), some (.inl 0)]) ((hp 31).trans rfl) rfl ?_
    exact H
  · have H := H.2 c6
    refine am_R.next ((hp 9).trans rfl) rfl ?_
    refine am_R.next ((hp 10).trans rfl) rfl ?_
    refine r_ic ((hp 12).trans rfl) (fun c5 => ?_) (fun c5 => ?_)
    · have H := H.1 c5
      refine am_R.next ((hp 27).trans rfl) rfl ?_
      exact am_R.ret ((hp 29).trans rfl) rfl H
    · have H := H.2 c5
      refine am_R.next ((hp 15).trans rfl) rfl ?_
      refine am_R.next ((hp 16).trans rfl) rfl ?_
      refine am_R.next ((hp 17).trans rfl) rfl ?_
      refine am_R.next ((hp 19).trans rfl) rfl ?_
      refine am_R.next ((hp 20).trans rfl) rfl ?_
      refine r_cv (bs := [.inr (.inl (am_w (x1 - 10)))]) (st' := []) ((hp 21).trans rfl) (hw.o (i := 109) (by decide) rfl) rfl rfl (Nat.le_of_ble_eq_true rfl) (Nat.le_of_ble_eq_true rfl) (am_R.post H (fun v g2 hq => ?_))
      obtain ⟨r3, rfl, hw, H⟩ := hq
      change am_R _ _ _ _ _ [.inl r3] _ _
      refine r_if ((hp 24).trans rfl) (fun c4 => ?_) (fun c4 => ?_)
      · have H := H.1 c4
        refine am_R.next ((hp 30).trans rfl) rfl ?_
        refine am_R.next (lv' := [some (.inr (.inr ((109 : Nat) : Int))), some (.inl x1), some (.inl 0)]) ((hp 31).trans rfl) rfl ?_
        exact H
      · have H := H.2 (Decidable.not_not.mp c4)
        refine am_R.next ((hp 27).trans rfl) rfl ?_
        exact am_R.ret ((hp 29).trans rfl) rfl H
theorem w_M_placing_32 {scr : Nat × (Nat → Int)} {d : Nat} {h : am_H} {Q : Option am_V → am_H → Prop} {x1 x2 : Int} (hs : am_sc scr) (hw : wf h) (H : (¬ (x2 < 6) → (∀ h1 : am_H, h1 = am_put h 109 34 268435456 → (am_R (am_prog scr) d f_M_goesPlace 0 [some (.inr (.inr ((109 : Nat) : Int))), some (.inl 0), some (.inl 0), none] [] h1 (fun v g2 => v = none ∧ wf g2 ∧ (am_R (am_prog scr) (d + 1) f_M_placing 74 [some (.inr (.inr ((109 : Nat) : Int))), some (.inl x1), some (.inl 0)] [] g2 Q))))) ∧ (x2 < 6 → ((0 ≤ (am_w (16 + x2)) ∧ (am_w (16 + x2)) < 3336) ∧ (((0 ≤ x2 ∧ x2 < 6)) ∧ (∀ h5 : am_H, h5 = am_put h 126 x2.toNat (h.2.2.2 110 ((am_w (16 + x2)).toNat)) → (∀ y6 : Int, y6 = am_w (x2 + 1) → (am_R (am_prog scr) (d + 1) f_M_placing 32 [some (.inr (.inr ((109 : Nat) : Int))), some (.inl x1), some (.inl y6)] [] h5 Q))))))) : am_R (am_prog scr) (d + 1) f_M_placing 32 [some (.inr (.inr ((109 : Nat) : Int))), some (.inl x1), some (.inl x2)] [] h Q := by
  have hp : ∀ k, (am_prog scr).1 f_M_placing k = c_M_placing k := fun _ => rfl
  refine am_R.next ((hp 32).trans rfl) rfl ?_
  refine am_R.next ((hp 33).trans rfl) rfl ?_
  refine r_ic ((hp 35).trans rfl) (fun c7 => ?_) (fun c7 => ?_)
  · have H := H.1 c7
    refine am_R.next ((hp 59).trans rfl) rfl ?_
    refine am_R.next ((hp 60).trans rfl) rfl ?_
    obtain ⟨h1, eh1⟩ : ∃ z : am_H, z = am_put h 109 34 268435456 := ⟨_, rfl⟩
    have H := H h1 eh1
    refine r_putI ((hp 63).trans rfl) (hw.o (i := 109) (by decide) rfl) ?_
    have hw : wf h1 := by rw [eh1]; exact hw.put np_109_34
    change am_R _ _ _ _ _ _ (am_put h 109 34 268435456) _
    rw [← eh1]
    refine am_R.next ((hp 66).trans rfl) rfl ?_
    refine am_R.next ((hp 67).trans rfl) rfl ?_
    refine am_R.next ((hp 68).trans rfl) rfl ?_
    refine r_cv (bs := [.inl 0, .inl 0]) (st' := []) ((hp 69).trans rfl) (hw.o (i := 109) (by decide) rfl) rfl rfl (Nat.le_of_ble_eq_true rfl) (Nat.le_of_ble_eq_true rfl) (am_R.post H (fun v g2 hq => ?_))
    obtain ⟨rfl, hw, H⟩ := hq
    change am_R _ _ _ _ _ [] _ _
    refine am_R.next ((hp 72).trans rfl) rfl ?_
    refine am_R.next (lv' := [some (.inr (.inr ((109 : Nat) : Int))), some (.inl x1), some (.inl 0)]) ((hp 73).trans rfl) rfl ?_
    exact H
  · have H := H.2 (Decidable.not_not.mp c7)
    refine am_R.next ((hp 38).trans rfl) rfl ?_
    refine r_getR ((hp 39).trans rfl) (hw.o (i := 109) (by decide) rfl) (hw.r wr_109_32) ?_
    refine am_R.next ((hp 42).trans rfl) rfl ?_
    refine am_R.next ((hp 43).trans rfl) rfl ?_
    refine r_getR ((hp 44).trans rfl) (hw.o (i := 109) (by decide) rfl) (hw.r wr_109_1) ?_
    refine am_R.next ((hp 47).trans rfl) rfl ?_
    refine am_R.next ((hp 49).trans rfl) rfl ?_
    refine am_R.next ((hp 50).trans rfl) rfl ?_
    obtain ⟨c3, H⟩ := H
    refine r_iald ((hp 51).trans rfl) (hw.a (i := 110) (by decide) rfl c3.1 c3.2) ?_
    obtain ⟨c4, H⟩ := H
    obtain ⟨h5, eh5⟩ : ∃ z : am_H, z = am_put h 126 x2.toNat (h.2.2.2 110 ((am_w (16 + x2)).toNat)) := ⟨_, rfl⟩
    have H := H h5 eh5
    refine r_iast ((hp 52).trans rfl) (hw.a (i := 126) (by decide) rfl c4.1 c4.2) ?_
    have hw : wf h5 := by rw [eh5]; exact hw.pa na_126
    change am_R _ _ _ _ _ _ (am_put h 126 x2.toNat (h.2.2.2 110 ((am_w (16 + x2)).toNat))) _
    rw [← eh5]
    obtain ⟨y6, ey6⟩ : ∃ z : Int, z = am_w (x2 + 1) := ⟨_, rfl⟩
    have H := H y6 ey6
    refine am_R.next (lv' := [some (.inr (.inr ((109 : Nat) : Int))), some (.inl x1), some (.inl y6)]) (st' := []) (h' := h5) (pc' := 56) ((hp 53).trans rfl) (by rw [ey6]; rfl) ?_
    refine am_R.next ((hp 56).trans rfl) rfl ?_
    exact H
theorem w_M_placing_74 {scr : Nat × (Nat → Int)} {d : Nat} {h : am_H} {Q : Option am_V → am_H → Prop} {x1 x2 : Int} (hs : am_sc scr) (hw : wf h) (H : (¬ (x2 < 6) → ((¬ ((h.2.2.2 109 34) = 268435456) → ((¬ (x1 = 0) → ((0 ≤ (am_w (x1 - 10)) ∧ (am_w (x1 - 10)) < 6) ∧ (Q (some (.inl (h.2.2.2 127 ((am_w (x1 - 10)).toNat)))) h))) ∧ (x1 = 0 → (Q (some (.inl (h.2.2.2 109 34))) h)))) ∧ ((h.2.2.2 109 34) = 268435456 → (Q (some (.inl (-1))) h)))) ∧ (x2 < 6 → ((0 ≤ x2 ∧ x2 < 6) ∧ (((0 ≤ (am_w (16 + x2)) ∧ (am_w (16 + x2)) < 3336)) ∧ (∀ h6 : am_H, h6 = am_put h 110 ((am_w (16 + x2)).toNat) (h.2.2.2 126 x2.toNat) → (∀ y7 : Int, y7 = am_w (x2 + 1) → (am_R (am_prog scr) (d + 1) f_M_placing 74 [some (.inr (.inr ((109 : Nat) : Int))), some (.inl x1), some (.inl y7)] [] h6 Q))))))) : am_R (am_prog scr) (d + 1) f_M_placing 74 [some (.inr (.inr ((109 : Nat) : Int))), some (.inl x1), some (.inl x2)] [] h Q := by
  have hp : ∀ k, (am_prog scr).1 f_M_placing k = c_M_placing k := fun _ => rfl
  refine am_R.next ((hp 74).trans rfl) rfl ?_
  refine am_R.next ((hp 75).trans rfl) rfl ?_
  refine r_ic ((hp 77).trans rfl) (fun c8 => ?_) (fun c8 => ?_)
  · have H := H.1 c8
    refine am_R.next ((hp 101).trans rfl) rfl ?_
    refine r_getI ((hp 102).trans rfl) (hw.o (i := 109) (by decide) rfl) ?_
    refine am_R.next ((hp 105).trans rfl) rfl ?_
    refine r_ic ((hp 108).trans rfl) (fun c3 => ?_) (fun c3 => ?_)
    · have H := H.1 c3
      refine am_R.next ((hp 115).trans rfl) rfl ?_
      refine r_if ((hp 116).trans rfl) (fun c2 => ?_) (fun c2 => ?_)
      · have H := H.1 c2
        refine am_R.next ((hp 126).trans rfl) rfl ?_
        refine r_getR ((hp 127).trans rfl) (hw.o (i := 109) (by decide) rfl) (hw.r wr_109_33) ?_
        refine am_R.next ((hp 130).trans rfl) rfl ?_
        refine am_R.next ((hp 131).trans rfl) rfl ?_
        refine am_R.next ((hp 133).trans rfl) rfl ?_
        obtain ⟨c1, H⟩ := H
        refine r_iald ((hp 134).trans rfl) (hw.a (i := 127) (by decide) rfl c1.1 c1.2) ?_
        exact am_R.ret ((hp 135).trans rfl) rfl H
      · have H := H.2 (Decidable.not_not.mp c2)
        refine am_R.next ((hp 119).trans rfl) rfl ?_
        refine r_getI ((hp 120).trans rfl) (hw.o (i := 109) (by decide) rfl) ?_
        refine am_R.next ((hp 123).trans rfl) rfl ?_
        exact am_R.ret ((hp 135).trans rfl) rfl H
    · have H := H.2 (Decidable.not_not.mp c3)
      refine am_R.next ((hp 111).trans rfl) rfl ?_
      refine am_R.next ((hp 112).trans rfl) rfl ?_
      exact am_R.ret ((hp 135).trans rfl) rfl H
  · have H := H.2 (Decidable.not_not.mp c8)
    refine am_R.next ((hp 80).trans rfl) rfl ?_
    refine r_getR ((hp 81).trans rfl) (hw.o (i := 109) (by decide) rfl) (hw.r wr_109_1) ?_
    refine am_R.next ((hp 84).trans rfl) rfl ?_
    refine am_R.next ((hp 86).trans rfl) rfl ?_
    refine am_R.next ((hp 87).trans rfl) rfl ?_
    refine am_R.next ((hp 88).trans rfl) rfl ?_
    refine r_getR ((hp 89).trans rfl) (hw.o (i := 109) (by decide) rfl) (hw.r wr_109_32) ?_
    refine am_R.next ((hp 92).trans rfl) rfl ?_
    obtain ⟨c4, H⟩ := H
    refine r_iald ((hp 93).trans rfl) (hw.a (i := 126) (by decide) rfl c4.1 c4.2) ?_
    obtain ⟨c5, H⟩ := H
    obtain ⟨h6, eh6⟩ : ∃ z : am_H, z = am_put h 110 ((am_w (16 + x2)).toNat) (h.2.2.2 126 x2.toNat) := ⟨_, rfl⟩
    have H := H h6 eh6
    refine r_iast ((hp 94).trans rfl) (hw.a (i := 110) (by decide) rfl c5.1 c5.2) ?_
    have hw : wf h6 := by rw [eh6]; exact hw.pa na_110
    change am_R _ _ _ _ _ _ (am_put h 110 ((am_w (16 + x2)).toNat) (h.2.2.2 126 x2.toNat)) _
    rw [← eh6]
    obtain ⟨y7, ey7⟩ : ∃ z : Int, z = am_w (x2 + 1) := ⟨_, rfl⟩
    have H := H y7 ey7
    refine am_R.next (lv' := [some (.inr (.inr ((109 : Nat) : Int))), some (.inl x1), some (.inl y7)]) (st' := []) (h' := h6) (pc' := 98) ((hp 95).trans rfl) (by rw [ey7]; rfl) ?_
    refine am_R.next ((hp 98).trans rfl) rfl ?_
    exact H
theorem w_M_fills_0 {scr : Nat × (Nat → Int)} {d : Nat} {h : am_H} {Q : Option am_V → am_H → Prop} {x1 : Int} (hs : am_sc scr) (hw : wf h) (H : ∀ h1 : am_H, h1 = am_put h 109 0 0 → (am_R (am_prog scr) d f_M_isSleeper 0 [some (.inr (.inr ((109 : Nat) : Int))), some (.inr (.inl x1)), none] [] h1 (fun v g2 => ∃ r3 : Int, v = some (.inl r3) ∧ wf g2 ∧ ((¬ (r3 = 0) → ((0 ≤ (am_w (22 + x1)) ∧ (am_w (22 + x1)) < 3336) ∧ (∀ y5 : Int, y5 = g2.2.2.2 110 ((am_w (22 + x1)).toNat) → (am_R (am_prog scr) (d + 1) f_M_fills 32 [some (.inr (.inr ((109 : Nat) : Int))), some (.inl x1), some (.inl y5), some (.inl 0), some (.inl 0)] [] g2 Q)))) ∧ (r3 = 0 → (Q (some (.inl (-2))) g2)))))) : am_R (am_prog scr) (d + 1) f_M_fills 0 [some (.inr (.inr ((109 : Nat) : Int))), some (.inl x1), none, none, none] [] h Q := by
  have hp : ∀ k, (am_prog scr).1 f_M_fills k = c_M_fills k := fun _ => rfl
  refine am_R.next ((hp 0).trans rfl) rfl ?_
  refine am_R.next ((hp 1).trans rfl) rfl ?_
  obtain ⟨h1, eh1⟩ : ∃ z : am_H, z = am_put h 109 0 0 := ⟨_, rfl⟩
  have H := H h1 eh1
  refine r_putI ((hp 2).trans rfl) (hw.o (i := 109) (by decide) rfl) ?_
  have hw : wf h1 := by rw [eh1]; exact hw.put np_109_0
  change am_R _ _ _ _ _ _ (am_put h 109 0 0) _
  rw [← eh1]
  refine am_R.next ((hp 5).trans rfl) rfl ?_
  refine am_R.next ((hp 6).trans rfl) rfl ?_
  refine am_R.next ((hp 7).trans rfl) rfl ?_
  refine r_cv (bs := [.inr (.inl x1)]) (st' := []) ((hp 8).trans rfl) (hw.o (i := 109) (by decide) rfl) rfl rfl (Nat.le_of_ble_eq_true rfl) (Nat.le_of_ble_eq_true rfl) (am_R.post H (fun v g2 hq => ?_))
  obtain ⟨r3, rfl, hw, H⟩ := hq
  change am_R _ _ _ _ _ [.inl r3] _ _
  refine r_if ((hp 11).trans rfl) (fun c6 => ?_) (fun c6 => ?_)
  · have H := H.1 c6
    refine am_R.next ((hp 17).trans rfl) rfl ?_
    refine r_getR ((hp 18).trans rfl) (hw.o (i := 109) (by decide) rfl) (hw.r wr_109_1) ?_
    refine am_R.next ((hp 21).trans rfl) rfl ?_
    refine am_R.next ((hp 23).trans rfl) rfl ?_
    refine am_R.next ((hp 24).trans rfl) rfl ?_
    obtain ⟨c4, H⟩ := H
    refine r_iald ((hp 25).trans rfl) (hw.a (i := 110) (by decide) rfl c4.1 c4.2) ?_
    obtain ⟨y5, ey5⟩ : ∃ z : Int, z = g2.2.2.2 110 ((am_w (22 + x1)).toNat) := ⟨_, rfl⟩
    have H := H y5 ey5
    refine am_R.next (lv' := [some (.inr (.inr ((109 : Nat) : Int))), some (.inl x1), some (.inl y5), none, none]) (st' := []) (h' := g2) (pc' := 27) ((hp 26).trans rfl) (by rw [ey5]; rfl) ?_
    refine am_R.next ((hp 27).trans rfl) rfl ?_
    refine am_R.next (lv' := [some (.inr (.inr ((109 : Nat) : Int))), some (.inl x1), some (.inl y5), some (.inl 0), none]) ((hp 28).trans rfl) rfl ?_
    refine am_R.next ((hp 29).trans rfl) rfl ?_
    refine am_R.next (lv' := [some (.inr (.inr ((109 : Nat) : Int))), some (.inl x1), some (.inl y5), some (.inl 0), some (.inl 0)]) ((hp 30).trans rfl) rfl ?_
    exact H
  · have H := H.2 (Decidable.not_not.mp c6)
    refine am_R.next ((hp 14).trans rfl) rfl ?_
    exact am_R.ret ((hp 16).trans rfl) rfl H
theorem w_M_fills_32 {scr : Nat × (Nat → Int)} {d : Nat} {h : am_H} {Q : Option am_V → am_H → Prop} {x1 x2 x3 x4 : Int} (hs : am_sc scr) (hw : wf h) (H : (¬ (x4 < 10) → (((0 ≤ (am_w (22 + x1)) ∧ (am_w (22 + x1)) < 3336)) ∧ (∀ h2 : am_H, h2 = am_put h 110 ((am_w (22 + x1)).toNat) x2 → (Q (some (.inl x3)) h2)))) ∧ (x4 < 10 → (((0 ≤ (am_w (22 + x1)) ∧ (am_w (22 + x1)) < 3336)) ∧ (∀ h4 : am_H, h4 = am_put h 110 ((am_w (22 + x1)).toNat) x4 → (am_R (am_prog scr) d f_M_goesHow 0 [some (.inr (.inr ((109 : Nat) : Int)))] [] h4 (fun v g5 => ∃ r6 : Int, v = some (.inl r6) ∧ wf g5 ∧ ((¬ (r6 = 0) → (∀ y7 : Int, y7 = am_or x3 0 → (∀ y8 : Int, y8 = am_w (x4 + 1) → (am_R (am_prog scr) (d + 1) f_M_fills 32 [some (.inr (.inr ((109 : Nat) : Int))), some (.inl x1), some (.inl x2), some (.inl y7), some (.inl y8)] [] g5 Q)))) ∧ (r6 = 0 → (∀ y9 : Int, y9 = am_or x3 (am_shl 1 x4) → (∀ y10 : Int, y10 = am_w (x4 + 1) → (am_R (am_prog scr) (d + 1) f_M_fills 32 [some (.inr (.inr ((109 : Nat) : Int))), some (.inl x1), some (.inl x2), some (.inl y9), some (.inl y10)] [] g5 Q))))))))))) : am_R (am_prog scr) (d + 1) f_M_fills 32 [some (.inr (.inr ((109 : Nat) : Int))), some (.inl x1), some (.inl x2), some (.inl x3), some (.inl x4)] [] h Q := by
  have hp : ∀ k, (am_prog scr).1 f_M_fills k = c_M_fills k := fun _ => rfl
  refine am_R.next ((hp 32).trans rfl) rfl ?_
  refine am_R.next ((hp 34).trans rfl) rfl ?_
  refine r_ic ((hp 36).trans rfl) (fun c12 => ?_) (fun c12 => ?_)
  · have H := H.1 c12
    refine am_R.next ((hp 74).trans rfl) rfl ?_
    refine r_getR ((hp 75).trans rfl) (hw.o (i := 109) (by decide) rfl) (hw.r wr_109_1) ?_
    refine am_R.next ((hp 78).trans rfl) rfl ?_
    refine am_R.next ((hp 80).trans rfl) rfl ?_
    refine am_R.next ((hp 81).trans rfl) rfl ?_
    refine am_R.next ((hp 82).trans rfl) rfl ?_
    obtain ⟨c1, H⟩ := H
    obtain ⟨h2, eh2⟩ : ∃ z : am_H, z = am_put h 110 ((am_w (22 + x1)).toNat) x2 := ⟨_, rfl⟩
    have H := H h2 eh2
    refine r_iast ((hp 83).trans rfl) (hw.a (i := 110) (by decide) rfl c1.1 c1.2) ?_
    have hw : wf h2 := by rw [eh2]; exact hw.pa na_110
    change am_R _ _ _ _ _ _ (am_put h 110 ((am_w (22 + x1)).toNat) x2) _
    rw [← eh2]
    refine am_R.next ((hp 84).trans rfl) rfl ?_
    exact am_R.ret ((hp 85).trans rfl) rfl H
  · have H := H.2 (Decidable.not_not.mp c12)
    refine am_R.next ((hp 39).trans rfl) rfl ?_
    refine r_getR ((hp 40).trans rfl) (hw.o (i := 109) (by decide) rfl) (hw.r wr_109_1) ?_
    refine am_R.next ((hp 43).trans rfl) rfl ?_
    refine am_R.next ((hp 45).trans rfl) rfl ?_
    refine am_R.next ((hp 46).trans rfl) rfl ?_
    refine am_R.next ((hp 47).trans rfl) rfl ?_
    obtain ⟨c3, H⟩ := H
    obtain ⟨h4, eh4⟩ : ∃ z : am_H, z = am_put h 110 ((am_w (22 + x1)).toNat) x4 := ⟨_, rfl⟩
    have H := H h4 eh4
    refine r_iast ((hp 49).trans rfl) (hw.a (i := 110) (by decide) rfl c3.1 c3.2) ?_
    have hw : wf h4 := by rw [eh4]; exact hw.pa na_110
    change am_R _ _ _ _ _ _ (am_put h 110 ((am_w (22 + x1)).toNat) x4) _
    rw [← eh4]
    refine am_R.next ((hp 50).trans rfl) rfl ?_
    refine am_R.next ((hp 51).trans rfl) rfl ?_
    refine r_cv (bs := []) (st' := [.inl x3]) ((hp 52).trans rfl) (hw.o (i := 109) (by decide) rfl) rfl rfl (Nat.le_of_ble_eq_true rfl) (Nat.le_of_ble_eq_true rfl) (am_R.post H (fun v g5 hq => ?_))
    obtain ⟨r6, rfl, hw, H⟩ := hq
    change am_R _ _ _ _ _ [.inl r6, .inl x3] _ _
    refine r_if ((hp 55).trans rfl) (fun c11 => ?_) (fun c11 => ?_)
    · have H := H.1 c11
      refine am_R.next ((hp 65).trans rfl) rfl ?_
      refine am_R.next ((hp 66).trans rfl) rfl ?_
      obtain ⟨y7, ey7⟩ : ∃ z : Int, z = am_or x3 0 := ⟨_, rfl⟩
      have H := H y7 ey7
      refine am_R.next (lv' := [some (.inr (.inr ((109 : Nat) : Int))), some (.inl x1), some (.inl x2), some (.inl y7), some (.inl x4)]) (st' := []) (h' := g5) (pc' := 68) ((hp 67).trans rfl) (by rw [ey7]; rfl) ?_
      obtain ⟨y8, ey8⟩ : ∃ z : Int, z = am_w (x4 + 1) := ⟨_, rfl⟩
      have H := H y8 ey8
      refine am_R.next (lv' := [some (.inr (.inr ((109 : Nat) : Int))), some (.inl x1), some (.inl x2), some (.inl y7), some (.inl y8)]) (st' := []) (h' := g5) (pc' := 71) ((hp 68).trans rfl) (by rw [ey8]; rfl) ?_
      refine am_R.next ((hp 71).trans rfl) rfl ?_
      exact H
    · have H := H.2 (Decidable.not_not.mp c11)
      refine am_R.next ((hp 58).trans rfl) rfl ?_
      refine am_R.next ((hp 59).trans rfl) rfl ?_
      refine am_R.next ((hp 61).trans rfl) rfl ?_
      refine am_R.next ((hp 62).trans rfl) rfl ?_
      refine am_R.next ((hp 66).trans rfl) rfl ?_
      obtain ⟨y9, ey9⟩ : ∃ z : Int, z = am_or x3 (am_shl 1 x4) := ⟨_, rfl⟩
      have H := H y9 ey9
      refine am_R.next (lv' := [some (.inr (.inr ((109 : Nat) : Int))), some (.inl x1), some (.inl x2), some (.inl y9), some (.inl x4)]) (st' := []) (h' := g5) (pc' := 68) ((hp 67).trans rfl) (by rw [ey9]; rfl) ?_
      obtain ⟨y10, ey10⟩ : ∃ z : Int, z = am_w (x4 + 1) := ⟨_, rfl⟩
      have H := H y10 ey10
      refine am_R.next (lv' := [some (.inr (.inr ((109 : Nat) : Int))), some (.inl x1), some (.inl x2), some (.inl y9), some (.inl y10)]) (st' := []) (h' := g5) (pc' := 71) ((hp 68).trans rfl) (by rw [ey10]; rfl) ?_
      refine am_R.next ((hp 71).trans rfl) rfl ?_
      exact H
theorem w_M_noHeard_0 {scr : Nat × (Nat → Int)} {d : Nat} {h : am_H} {Q : Option am_V → am_H → Prop} {x1 : Int} (hs : am_sc scr) (hw : wf h) (H : am_R (am_prog scr) d f_M_noTray 0 [some (.inr (.inr ((109 : Nat) : Int))), some (.inl x1)] [] h (fun v g1 => ∃ r2 : Int, v = some (.inl r2) ∧ wf g1 ∧ ((r2 = 0 → ((0 ≤ x1 ∧ x1 < 4) ∧ (am_R (am_prog scr) d f_M_within 0 [some (.inr (.inl (g1.2.2.2 131 x1.toNat))), none, some (.inr (.inl 1)), none, some (.inr (.inl 8)), none] [] g1 (fun v g4 => ∃ r5 : Int, v = some (.inl r5) ∧ wf g4 ∧ ((¬ (r5 = 0) → (am_R (am_prog scr) (d + 1) f_M_noHeard 34 [some (.inr (.inr ((109 : Nat) : Int))), some (.inl x1), some (.inl r2), some (.inl 0)] [] g4 Q)) ∧ (r5 = 0 → (Q (some (.inl (-4))) g4))))))) ∧ (¬ (r2 = 0) → (Q (some (.inl r2)) g1))))) : am_R (am_prog scr) (d + 1) f_M_noHeard 0 [some (.inr (.inr ((109 : Nat) : Int))), some (.inl x1), none, none] [] h Q := by
  have hp : ∀ k, (am_prog scr).1 f_M_noHeard k = c_M_noHeard k := fun _ => rfl
  refine am_R.next ((hp 0).trans rfl) rfl ?_
  refine am_R.next ((hp 1).trans rfl) rfl ?_
  refine r_cv (bs := [.inl x1]) (st' := []) ((hp 2).trans rfl) (hw.o (i := 109) (by decide) rfl) rfl rfl (Nat.le_of_ble_eq_true rfl) (Nat.le_of_ble_eq_true rfl) (am_R.post H (fun v g1 hq => ?_))
  obtain ⟨r2, rfl, hw, H⟩ := hq
  change am_R _ _ _ _ _ [.inl r2] _ _
  refine am_R.next (lv' := [some (.inr (.inr ((109 : Nat) : Int))), some (.inl x1), some (.inl r2), none]) ((hp 5).trans rfl) rfl ?_
  refine am_R.next ((hp 6).trans rfl) rfl ?_
  refine r_if ((hp 7).trans rfl) (fun c7 => ?_) (fun c7 => ?_)
  · have H := H.1 c7
    refine am_R.next ((hp 12).trans rfl) rfl ?_
    refine r_getR ((hp 13).trans rfl) (hw.o (i := 109) (by decide) rfl) (hw.r wr_109_38) ?_
    refine am_R.next ((hp 16).trans rfl) rfl ?_
    obtain ⟨c3, H⟩ := H
    refine r_iald ((hp 17).trans rfl) (hw.a (i := 131) (by decide) rfl c3.1 c3.2) ?_
    refine am_R.next ((hp 18).trans rfl) rfl ?_
    refine am_R.next ((hp 19).trans rfl) rfl ?_
    refine am_R.next ((hp 20).trans rfl) rfl ?_
    refine r_cs (as := [.inr (.inl (g1.2.2.2 131 x1.toNat)), .inr (.inl 1), .inr (.inl 8)]) (st' := []) ((hp 23).trans rfl) rfl rfl (Nat.le_of_ble_eq_true rfl) (Nat.le_of_ble_eq_true rfl) (am_R.post H (fun v g4 hq => ?_))
    obtain ⟨r5, rfl, hw, H⟩ := hq
    change am_R _ _ _ _ _ [.inl r5] _ _
    refine r_if ((hp 26).trans rfl) (fun c6 => ?_) (fun c6 => ?_)
    · have H := H.1 c6
      refine am_R.next ((hp 32).trans rfl) rfl ?_
      refine am_R.next (lv' := [some (.inr (.inr ((109 : Nat) : Int))), some (.inl x1), some (.inl r2), some (.inl 0)]) ((hp 33).trans rfl) rfl ?_
      exact H
    · have H := H.2 (Decidable.not_not.mp c6)
      refine am_R.next ((hp 29).trans rfl) rfl ?_
      exact am_R.ret ((hp 31).trans rfl) rfl H
  · have H := H.2 c7
    refine am_R.next ((hp 10).trans rfl) rfl ?_
    exact am_R.ret ((hp 11).trans rfl) rfl H
theorem w_M_noHeard_34 {scr : Nat × (Nat → Int)} {d : Nat} {h : am_H} {Q : Option am_V → am_H → Prop} {x1 x2 x3 : Int} (hs : am_sc scr) (hw : wf h) (H : (0 ≤ x1 ∧ x1 < 4) ∧ ((¬ (x3 < (h.2.2.2 131 x1.toNat)) → (Q (some (.inl 0)) h)) ∧ (x3 < (h.2.2.2 131 x1.toNat) → ((0 ≤ (am_w ((am_w (40 * x1)) + x3)) ∧ (am_w ((am_w (40 * x1)) + x3)) < 160) ∧ (am_R (am_prog scr) d f_M_within 0 [some (.inr (.inl (h.2.2.2 132 ((am_w ((am_w (40 * x1)) + x3)).toNat)))), none, some (.inr (.inl (-1))), none, some (.inr (.inl (am_w ((h.2.2.2 110 2) - 1)))), none] [] h (fun v g3 => ∃ r4 : Int, v = some (.inl r4) ∧ wf g3 ∧ ((¬ (r4 = 0) → (∀ y5 : Int, y5 = am_w (x3 + 1) → (am_R (am_prog scr) (d + 1) f_M_noHeard 34 [some (.inr (.inr ((109 : Nat) : Int))), some (.inl x1), some (.inl x2), some (.inl y5)] [] g3 Q))) ∧ (r4 = 0 → (Q (some (.inl (-3))) g3))))))))) : am_R (am_prog scr) (d + 1) f_M_noHeard 34 [some (.inr (.inr ((109 : Nat) : Int))), some (.inl x1), some (.inl x2), some (.inl x3)] [] h Q := by
  have hp : ∀ k, (am_prog scr).1 f_M_noHeard k = c_M_noHeard k := fun _ => rfl
  refine am_R.next ((hp 34).trans rfl) rfl ?_
  refine am_R.next ((hp 35).trans rfl) rfl ?_
  refine r_getR ((hp 36).trans rfl) (hw.o (i := 109) (by decide) rfl) (hw.r wr_109_38) ?_
  refine am_R.next ((hp 39).trans rfl) rfl ?_
  obtain ⟨c1, H⟩ := H
  refine r_iald ((hp 40).trans rfl) (hw.a (i := 131) (by decide) rfl c1.1 c1.2) ?_
  refine r_ic ((hp 41).trans rfl) (fun c7 => ?_) (fun c7 => ?_)
  · have H := H.1 c7
    refine am_R.next ((hp 82).trans rfl) rfl ?_
    exact am_R.ret ((hp 83).trans rfl) rfl H
  · have H := H.2 (Decidable.not_not.mp c7)
    refine am_R.next ((hp 44).trans rfl) rfl ?_
    refine r_getR ((hp 45).trans rfl) (hw.o (i := 109) (by decide) rfl) (hw.r wr_109_39) ?_
    refine am_R.next ((hp 48).trans rfl) rfl ?_
    refine am_R.next ((hp 50).trans rfl) rfl ?_
    refine am_R.next ((hp 51).trans rfl) rfl ?_
    refine am_R.next ((hp 52).trans rfl) rfl ?_
    refine am_R.next ((hp 53).trans rfl) rfl ?_
    obtain ⟨c2, H⟩ := H
    refine r_lald ((hp 54).trans rfl) (hw.a (i := 132) (by decide) rfl c2.1 c2.2) ?_
    refine am_R.next ((hp 55).trans rfl) rfl ?_
    refine am_R.next ((hp 58).trans rfl) rfl ?_
    refine r_getR ((hp 59).trans rfl) (hw.o (i := 109) (by decide) rfl) (hw.r wr_109_1) ?_
    refine am_R.next ((hp 62).trans rfl) rfl ?_
    refine r_iald ((hp 63).trans rfl) (hw.a (i := 110) (by decide) rfl (by decide) (by decide)) ?_
    refine am_R.next ((hp 64).trans rfl) rfl ?_
    refine am_R.next ((hp 65).trans rfl) rfl ?_
    refine am_R.next ((hp 66).trans rfl) rfl ?_
    refine r_cs (as := [.inr (.inl (h.2.2.2 132 ((am_w ((am_w (40 * x1)) + x3)).toNat))), .inr (.inl (-1)), .inr (.inl (am_w ((h.2.2.2 110 2) - 1)))]) (st' := []) ((hp 67).trans rfl) rfl rfl (Nat.le_of_ble_eq_true rfl) (Nat.le_of_ble_eq_true rfl) (am_R.post H (fun v g3 hq => ?_))
    obtain ⟨r4, rfl, hw, H⟩ := hq
    change am_R _ _ _ _ _ [.inl r4] _ _
    refine r_if ((hp 70).trans rfl) (fun c6 => ?_) (fun c6 => ?_)
    · have H := H.1 c6
      obtain ⟨y5, ey5⟩ : ∃ z : Int, z = am_w (x3 + 1) := ⟨_, rfl⟩
      have H := H y5 ey5
      refine am_R.next (lv' := [some (.inr (.inr ((109 : Nat) : Int))), some (.inl x1), some (.inl x2), some (.inl y5)]) (st' := []) (h' := g3) (pc' := 79) ((hp 76).trans rfl) (by rw [ey5]; rfl) ?_
      refine am_R.next ((hp 79).trans rfl) rfl ?_
      exact H
    · have H := H.2 (Decidable.not_not.mp c6)
      refine am_R.next ((hp 73).trans rfl) rfl ?_
      exact am_R.ret ((hp 75).trans rfl) rfl H
theorem w_M_isHeard_0 {scr : Nat × (Nat → Int)} {d : Nat} {h : am_H} {Q : Option am_V → am_H → Prop} {x1 x2 x3 : Int} (hs : am_sc scr) (hw : wf h) (H : (x3 = (-1) → (Q (some (.inl 0)) h)) ∧ (¬ (x3 = (-1)) → ((¬ ((x3.tmod 2) = 1) → ((0 ≤ (am_w ((am_w (40 * x1)) + x2)) ∧ (am_w ((am_w (40 * x1)) + x2)) < 160) ∧ (((h.2.2.2 132 ((am_w ((am_w (40 * x1)) + x2)).toNat)) = (-1) → (Q (some (.inl 1)) h)) ∧ (¬ ((h.2.2.2 132 ((am_w ((am_w (40 * x1)) + x2)).toNat)) = (-1)) → ((0 ≤ (am_w ((am_w (40 * x1)) + x2)) ∧ (am_w ((am_w (40 * x1)) + x2)) < 160) ∧ (am_R (am_prog scr) d f_M_soundIn 0 [some (.inl x3)] [] h (fun v g3 => ∃ r4 : Int, v = some (.inl r4) ∧ wf g3 ∧ ((¬ ((h.2.2.2 132 ((am_w ((am_w (40 * x1)) + x2)).toNat)) = r4) → (Q (some (.inl 0)) g3)) ∧ ((h.2.2.2 132 ((am_w ((am_w (40 * x1)) + x2)).toNat)) = r4 → (Q (some (.inl 1)) g3)))))))))) ∧ ((x3.tmod 2) = 1 → (Q (some (.inl 0)) h))))) : am_R (am_prog scr) (d + 1) f_M_isHeard 0 [some (.inr (.inr ((109 : Nat) : Int))), some (.inl x1), some (.inl x2), some (.inl x3)] [] h Q := by
  have hp : ∀ k, (am_prog scr).1 f_M_isHeard k = c_M_isHeard k := fun _ => rfl
  refine am_R.next ((hp 0).trans rfl) rfl ?_
  refine am_R.next ((hp 1).trans rfl) rfl ?_
  refine r_ic ((hp 2).trans rfl) (fun c8 => ?_) (fun c8 => ?_)
  · have H := H.1 c8
    refine am_R.next ((hp 12).trans rfl) rfl ?_
    exact r_zret ((hp 13).trans rfl) (Or.inl rfl) H
  · have H := H.2 c8
    refine am_R.next ((hp 5).trans rfl) rfl ?_
    refine am_R.next ((hp 6).trans rfl) rfl ?_
    refine r_i2z ((hp 7).trans rfl) (by decide) ?_
    refine am_R.next ((hp 8).trans rfl) rfl ?_
    refine r_ic ((hp 9).trans rfl) (fun c7 => ?_) (fun c7 => ?_)
    · have H := H.1 c7
      refine am_R.next ((hp 14).trans rfl) rfl ?_
      refine r_getR ((hp 15).trans rfl) (hw.o (i := 109) (by decide) rfl) (hw.r wr_109_39) ?_
      refine am_R.next ((hp 18).trans rfl) rfl ?_
      refine am_R.next ((hp 20).trans rfl) rfl ?_
      refine am_R.next ((hp 21).trans rfl) rfl ?_
      refine am_R.next ((hp 22).trans rfl) rfl ?_
      refine am_R.next ((hp 23).trans rfl) rfl ?_
      obtain ⟨c1, H⟩ := H
      refine r_lald ((hp 24).trans rfl) (hw.a (i := 132) (by decide) rfl c1.1 c1.2) ?_
      refine am_R.next ((hp 25).trans rfl) rfl ?_
      refine am_R.next ((hp 28).trans rfl) rfl ?_
      refine r_if ((hp 29).trans rfl) (fun c6 => ?_) (fun c6 => ?_)
      · have H := H.1 (lc_eqt c6)
        refine am_R.next ((hp 52).trans rfl) rfl ?_
        refine am_R.next ((hp 53).trans rfl) rfl ?_
        exact r_zret ((hp 57).trans rfl) (Or.inr rfl) H
      · have H := H.2 (lc_eqf c6)
        refine am_R.next ((hp 32).trans rfl) rfl ?_
        refine r_getR ((hp 33).trans rfl) (hw.o (i := 109) (by decide) rfl) (hw.r wr_109_39) ?_
        refine am_R.next ((hp 36).trans rfl) rfl ?_
        refine am_R.next ((hp 38).trans rfl) rfl ?_
        refine am_R.next ((hp 39).trans rfl) rfl ?_
        refine am_R.next ((hp 40).trans rfl) rfl ?_
        refine am_R.next ((hp 41).trans rfl) rfl ?_
        obtain ⟨c2, H⟩ := H
        refine r_lald ((hp 42).trans rfl) (hw.a (i := 132) (by decide) rfl c2.1 c2.2) ?_
        refine am_R.next ((hp 43).trans rfl) rfl ?_
        refine r_cs (as := [.inl x3]) (st' := [.inr (.inl (h.2.2.2 132 ((am_w ((am_w (40 * x1)) + x2)).toNat)))]) ((hp 44).trans rfl) rfl rfl (Nat.le_of_ble_eq_true rfl) (Nat.le_of_ble_eq_true rfl) (am_R.post H (fun v g3 hq => ?_))
        obtain ⟨r4, rfl, hw, H⟩ := hq
        change am_R _ _ _ _ _ [.inl r4, .inr (.inl (h.2.2.2 132 ((am_w ((am_w (40 * x1)) + x2)).toNat)))] _ _
        refine am_R.next ((hp 47).trans rfl) rfl ?_
        refine am_R.next ((hp 48).trans rfl) rfl ?_
        refine r_if ((hp 49).trans rfl) (fun c5 => ?_) (fun c5 => ?_)
        · have H := H.1 (lc_net c5)
          refine am_R.next ((hp 56).trans rfl) rfl ?_
          exact r_zret ((hp 57).trans rfl) (Or.inl rfl) H
        · have H := H.2 (lc_nef c5)
          refine am_R.next ((hp 52).trans rfl) rfl ?_
          refine am_R.next ((hp 53).trans rfl) rfl ?_
          exact r_zret ((hp 57).trans rfl) (Or.inr rfl) H
    · have H := H.2 (Decidable.not_not.mp c7)
      refine am_R.next ((hp 12).trans rfl) rfl ?_
      exact r_zret ((hp 13).trans rfl) (Or.inl rfl) H
theorem w_M_laysHeard_0 {scr : Nat × (Nat → Int)} {d : Nat} {h : am_H} {Q : Option am_V → am_H → Prop} {x1 : Int} (hs : am_sc scr) (hw : wf h) (H : am_R (am_prog scr) d f_M_laysStands 0 [some (.inr (.inr ((109 : Nat) : Int))), none, none, none] [] h (fun v g1 => v = none ∧ wf g1 ∧ ((0 ≤ x1 ∧ x1 < 4) ∧ (∀ y3 : Int, y3 = g1.2.2.2 131 x1.toNat → (am_R (am_prog scr) (d + 1) f_M_laysHeard 13 [some (.inr (.inr ((109 : Nat) : Int))), some (.inl x1), some (.inl y3), some (.inl 0), none, none, none, none, none] [] g1 Q))))) : am_R (am_prog scr) (d + 1) f_M_laysHeard 0 [some (.inr (.inr ((109 : Nat) : Int))), some (.inl x1), none, none, none, none, none, none, none] [] h Q := by
  have hp : ∀ k, (am_prog scr).1 f_M_laysHeard k = c_M_laysHeard k := fun _ => rfl
  refine am_R.next ((hp 0).trans rfl) rfl ?_
  refine r_cv (bs := []) (st' := []) ((hp 1).trans rfl) (hw.o (i := 109) (by decide) rfl) rfl rfl (Nat.le_of_ble_eq_true rfl) (Nat.le_of_ble_eq_true rfl) (am_R.post H (fun v g1 hq => ?_))
  obtain ⟨rfl, hw, H⟩ := hq
  change am_R _ _ _ _ _ [] _ _
  refine am_R.next ((hp 4).trans rfl) rfl ?_
  refine r_getR ((hp 5).trans rfl) (hw.o (i := 109) (by decide) rfl) (hw.r wr_109_38) ?_
  refine am_R.next ((hp 8).trans rfl) rfl ?_
  obtain ⟨c2, H⟩ := H
  refine r_iald ((hp 9).trans rfl) (hw.a (i := 131) (by decide) rfl c2.1 c2.2) ?_
  obtain ⟨y3, ey3⟩ : ∃ z : Int, z = g1.2.2.2 131 x1.toNat := ⟨_, rfl⟩
  have H := H y3 ey3
  refine am_R.next (lv' := [some (.inr (.inr ((109 : Nat) : Int))), some (.inl x1), some (.inl y3), none, none, none, none, none, none]) (st' := []) (h' := g1) (pc' := 11) ((hp 10).trans rfl) (by rw [ey3]; rfl) ?_
  refine am_R.next ((hp 11).trans rfl) rfl ?_
  refine am_R.next (lv' := [some (.inr (.inr ((109 : Nat) : Int))), some (.inl x1), some (.inl y3), some (.inl 0), none, none, none, none, none]) ((hp 12).trans rfl) rfl ?_
  exact H
theorem w_M_laysHeard_13 {scr : Nat × (Nat → Int)} {d : Nat} {h : am_H} {Q : Option am_V → am_H → Prop} {x1 x2 x3 : Int} (hs : am_sc scr) (hw : wf h) (H : (¬ (x3 < (h.2.2.2 109 29)) → (∀ y1 : Int, y1 = am_w (x2 - 1) → (am_R (am_prog scr) (d + 1) f_M_laysHeard 49 [some (.inr (.inr ((109 : Nat) : Int))), some (.inl x1), some (.inl x2), some (.inl y1), none, none, none, none, none] [] h Q))) ∧ (x3 < (h.2.2.2 109 29) → ((0 ≤ x3 ∧ x3 < 360) ∧ (((0 ≤ (am_w ((am_w (360 * x2)) + (h.2.2.2 119 x3.toNat))) ∧ (am_w ((am_w (360 * x2)) + (h.2.2.2 119 x3.toNat))) < 3240)) ∧ (∀ h4 : am_H, h4 = am_put h 128 ((am_w ((am_w (360 * x2)) + (h.2.2.2 119 x3.toNat))).toNat) 1 → (∀ y5 : Int, y5 = am_w (x3 + 1) → (am_R (am_prog scr) (d + 1) f_M_laysHeard 13 [some (.inr (.inr ((109 : Nat) : Int))), some (.inl x1), some (.inl x2), some (.inl y5), none, none, none, none, none] [] h4 Q))))))) : am_R (am_prog scr) (d + 1) f_M_laysHeard 13 [some (.inr (.inr ((109 : Nat) : Int))), some (.inl x1), some (.inl x2), some (.inl x3), none, none, none, none, none] [] h Q := by
  have hp : ∀ k, (am_prog scr).1 f_M_laysHeard k = c_M_laysHeard k := fun _ => rfl
  refine am_R.next ((hp 13).trans rfl) rfl ?_
  refine am_R.next ((hp 14).trans rfl) rfl ?_
  refine r_getI ((hp 15).trans rfl) (hw.o (i := 109) (by decide) rfl) ?_
  refine r_ic ((hp 18).trans rfl) (fun c6 => ?_) (fun c6 => ?_)
  · have H := H.1 c6
    refine am_R.next ((hp 45).trans rfl) rfl ?_
    refine am_R.next ((hp 46).trans rfl) rfl ?_
    refine am_R.next ((hp 47).trans rfl) rfl ?_
    obtain ⟨y1, ey1⟩ : ∃ z : Int, z = am_w (x2 - 1) := ⟨_, rfl⟩
    have H := H y1 ey1
    refine am_R.next (lv' := [some (.inr (.inr ((109 : Nat) : Int))), some (.inl x1), some (.inl x2), some (.inl y1), none, none, none, none, none]) (st' := []) (h' := h) (pc' := 49) ((hp 48).trans rfl) (by rw [ey1]; rfl) ?_
    exact H
  · have H := H.2 (Decidable.not_not.mp c6)
    refine am_R.next ((hp 21).trans rfl) rfl ?_
    refine r_getR ((hp 22).trans rfl) (hw.o (i := 109) (by decide) rfl) (hw.r wr_109_35) ?_
    refine am_R.next ((hp 25).trans rfl) rfl ?_
    refine am_R.next ((hp 28).trans rfl) rfl ?_
    refine am_R.next ((hp 29).trans rfl) rfl ?_
    refine am_R.next ((hp 30).trans rfl) rfl ?_
    refine r_getR ((hp 31).trans rfl) (hw.o (i := 109) (by decide) rfl) (hw.r wr_109_24) ?_
    refine am_R.next ((hp 34).trans rfl) rfl ?_
    obtain ⟨c2, H⟩ := H
    refine r_iald ((hp 35).trans rfl) (hw.a (i := 119) (by decide) rfl c2.1 c2.2) ?_
    refine am_R.next ((hp 36).trans rfl) rfl ?_
    refine am_R.next ((hp 37).trans rfl) rfl ?_
    obtain ⟨c3, H⟩ := H
    obtain ⟨h4, eh4⟩ : ∃ z : am_H, z = am_put h 128 ((am_w ((am_w (360 * x2)) + (h.2.2.2 119 x3.toNat))).toNat) 1 := ⟨_, rfl⟩
    have H := H h4 eh4
    refine r_last ((hp 38).trans rfl) (hw.a (i := 128) (by decide) rfl c3.1 c3.2) ?_
    have hw : wf h4 := by rw [eh4]; exact hw.pa na_128
    change am_R _ _ _ _ _ _ (am_put h 128 ((am_w ((am_w (360 * x2)) + (h.2.2.2 119 x3.toNat))).toNat) 1) _
    rw [← eh4]
    obtain ⟨y5, ey5⟩ : ∃ z : Int, z = am_w (x3 + 1) := ⟨_, rfl⟩
    have H := H y5 ey5
    refine am_R.next (lv' := [some (.inr (.inr ((109 : Nat) : Int))), some (.inl x1), some (.inl x2), some (.inl y5), none, none, none, none, none]) (st' := []) (h' := h4) (pc' := 42) ((hp 39).trans rfl) (by rw [ey5]; rfl) ?_
    refine am_R.next ((hp 42).trans rfl) rfl ?_
    exact H
theorem w_M_laysHeard_49 {scr : Nat × (Nat → Int)} {d : Nat} {h : am_H} {Q : Option am_V → am_H → Prop} {x1 x2 x3 : Int} (hs : am_sc scr) (hw : wf h) (H : (x3 < 0 → (am_R (am_prog scr) d f_M_standNow 0 [some (.inr (.inr ((109 : Nat) : Int)))] [] h (fun v g1 => ∃ r2 : Int, v = some (.inl r2) ∧ wf g1 ∧ ((0 ≤ r2 ∧ r2 < 3240) ∧ (Q (some (.inr (.inl (g1.2.2.2 128 r2.toNat)))) g1))))) ∧ (¬ (x3 < 0) → (am_R (am_prog scr) (d + 1) f_M_laysHeard 56 [some (.inr (.inr ((109 : Nat) : Int))), some (.inl x1), some (.inl x2), some (.inl x3), some (.inl 0), none, none, none, none] [] h Q))) : am_R (am_prog scr) (d + 1) f_M_laysHeard 49 [some (.inr (.inr ((109 : Nat) : Int))), some (.inl x1), some (.inl x2), some (.inl x3), none, none, none, none, none] [] h Q := by
  have hp : ∀ k, (am_prog scr).1 f_M_laysHeard k = c_M_laysHeard k := fun _ => rfl
  refine am_R.next ((hp 49).trans rfl) rfl ?_
  refine r_if ((hp 50).trans rfl) (fun c4 => ?_) (fun c4 => ?_)
  · have H := H.1 c4
    refine am_R.next ((hp 167).trans rfl) rfl ?_
    refine r_getR ((hp 168).trans rfl) (hw.o (i := 109) (by decide) rfl) (hw.r wr_109_35) ?_
    refine am_R.next ((hp 171).trans rfl) rfl ?_
    refine r_cv (bs := []) (st' := [.inr (.inr ((128 : Nat) : Int))]) ((hp 172).trans rfl) (hw.o (i := 109) (by decide) rfl) rfl rfl (Nat.le_of_ble_eq_true rfl) (Nat.le_of_ble_eq_true rfl) (am_R.post H (fun v g1 hq => ?_))
    obtain ⟨r2, rfl, hw, H⟩ := hq
    change am_R _ _ _ _ _ [.inl r2, .inr (.inr ((128 : Nat) : Int))] _ _
    obtain ⟨c3, H⟩ := H
    refine r_lald ((hp 175).trans rfl) (hw.a (i := 128) (by decide) rfl c3.1 c3.2) ?_
    exact am_R.ret ((hp 176).trans rfl) rfl H
  · have H := H.2 c4
    refine am_R.next ((hp 53).trans rfl) rfl ?_
    refine am_R.next (lv' := [some (.inr (.inr ((109 : Nat) : Int))), some (.inl x1), some (.inl x2), some (.inl x3), some (.inl 0), none, none, none, none]) ((hp 54).trans rfl) rfl ?_
    exact H
theorem w_M_laysHeard_56 {scr : Nat × (Nat → Int)} {d : Nat} {h : am_H} {Q : Option am_V → am_H → Prop} {x1 x2 x3 x4 : Int} (hs : am_sc scr) (hw : wf h) (H : (¬ (x4 < (h.2.2.2 109 29)) → (∀ y1 : Int, y1 = am_w (x3 + (-1)) → (am_R (am_prog scr) (d + 1) f_M_laysHeard 49 [some (.inr (.inr ((109 : Nat) : Int))), some (.inl x1), some (.inl x2), some (.inl y1), none, none, none, none, none] [] h Q))) ∧ (x4 < (h.2.2.2 109 29) → (am_R (am_prog scr) (d + 1) f_M_laysHeard 71 [some (.inr (.inr ((109 : Nat) : Int))), some (.inl x1), some (.inl x2), some (.inl x3), some (.inl x4), some (.inr (.inl 0)), none, some (.inl 0), none] [] h Q))) : am_R (am_prog scr) (d + 1) f_M_laysHeard 56 [some (.inr (.inr ((109 : Nat) : Int))), some (.inl x1), some (.inl x2), some (.inl x3), some (.inl x4), none, none, none, none] [] h Q := by
  have hp : ∀ k, (am_prog scr).1 f_M_laysHeard k = c_M_laysHeard k := fun _ => rfl
  refine am_R.next ((hp 56).trans rfl) rfl ?_
  refine am_R.next ((hp 58).trans rfl) rfl ?_
  refine r_getI ((hp 59).trans rfl) (hw.o (i := 109) (by decide) rfl) ?_
  refine r_ic ((hp 62).trans rfl) (fun c2 => ?_) (fun c2 => ?_)
  · have H := H.1 c2
    obtain ⟨y1, ey1⟩ : ∃ z : Int, z = am_w (x3 + (-1)) := ⟨_, rfl⟩
    have H := H y1 ey1
    refine am_R.next (lv' := [some (.inr (.inr ((109 : Nat) : Int))), some (.inl x1), some (.inl x2), some (.inl y1), some (.inl x4), none, none, none, none]) (st' := []) (h' := h) (pc' := 164) ((hp 161).trans rfl) (by rw [ey1]; rfl) ?_
    refine am_R.next ((hp 164).trans rfl) rfl ?_
    exact r_le hs in_102 (le_k (le_k (le_k (le_k (le_d (le_k (le_k (le_k (le_k le_n))))))))) H
  · have H := H.2 (Decidable.not_not.mp c2)
    refine am_R.next ((hp 65).trans rfl) rfl ?_
    refine am_R.next (lv' := [some (.inr (.inr ((109 : Nat) : Int))), some (.inl x1), some (.inl x2), some (.inl x3), some (.inl x4), some (.inr (.inl 0)), none, none, none]) ((hp 66).trans rfl) rfl ?_
    refine am_R.next ((hp 68).trans rfl) rfl ?_
    refine am_R.next (lv' := [some (.inr (.inr ((109 : Nat) : Int))), some (.inl x1), some (.inl x2), some (.inl x3), some (.inl x4), some (.inr (.inl 0)), none, some (.inl 0), none]) ((hp 69).trans rfl) rfl ?_
    exact H
theorem w_M_laysHeard_71 {scr : Nat × (Nat → Int)} {d : Nat} {h : am_H} {Q : Option am_V → am_H → Prop} {x1 x2 x3 x4 x5 x7 : Int} (hs : am_sc scr) (hw : wf h) (H : (¬ (x7 < 7) → ((0 ≤ x4 ∧ x4 < 360) ∧ (((0 ≤ (am_w ((am_w (360 * x3)) + (h.2.2.2 119 x4.toNat))) ∧ (am_w ((am_w (360 * x3)) + (h.2.2.2 119 x4.toNat))) < 3240)) ∧ (∀ h3 : am_H, h3 = am_put h 128 ((am_w ((am_w (360 * x3)) + (h.2.2.2 119 x4.toNat))).toNat) x5 → (∀ y4 : Int, y4 = am_w (x4 + 1) → (am_R (am_prog scr) (d + 1) f_M_laysHeard 56 [some (.inr (.inr ((109 : Nat) : Int))), some (.inl x1), some (.inl x2), some (.inl x3), some (.inl y4), none, none, none, none] [] h3 Q)))))) ∧ (x7 < 7 → ((0 ≤ x4 ∧ x4 < 360) ∧ ((0 ≤ (am_w ((am_w (7 * (h.2.2.2 119 x4.toNat))) + x7)) ∧ (am_w ((am_w (7 * (h.2.2.2 119 x4.toNat))) + x7)) < 2520) ∧ (∀ y7 : Int, y7 = h.2.2.2 120 ((am_w ((am_w (7 * (h.2.2.2 119 x4.toNat))) + x7)).toNat) → (am_R (am_prog scr) d f_M_isHeard 0 [some (.inr (.inr ((109 : Nat) : Int))), some (.inl x1), some (.inl x3), some (.inl y7)] [] h (fun v g8 => ∃ r9 : Int, v = some (.inl r9) ∧ wf g8 ∧ ((r9 = 0 → (∀ y10 : Int, y10 = am_w (x7 + 1) → (am_R (am_prog scr) (d + 1) f_M_laysHeard 71 [some (.inr (.inr ((109 : Nat) : Int))), some (.inl x1), some (.inl x2), some (.inl x3), some (.inl x4), some (.inr (.inl x5)), none, some (.inl y10), none] [] g8 Q))) ∧ (¬ (r9 = 0) → ((0 ≤ (am_w ((am_w (360 * (am_w (x3 + 1)))) + y7)) ∧ (am_w ((am_w (360 * (am_w (x3 + 1)))) + y7)) < 3240) ∧ (∀ y12 : Int, y12 = am_W (x5 + (g8.2.2.2 128 ((am_w ((am_w (360 * (am_w (x3 + 1)))) + y7)).toNat))) → (∀ y13 : Int, y13 = am_w (x7 + 1) → (am_R (am_prog scr) (d + 1) f_M_laysHeard 71 [some (.inr (.inr ((109 : Nat) : Int))), some (.inl x1), some (.inl x2), some (.inl x3), some (.inl x4), some (.inr (.inl y12)), none, some (.inl y13), none] [] g8 Q))))))))))))) : am_R (am_prog scr) (d + 1) f_M_laysHeard 71 [some (.inr (.inr ((109 : Nat) : Int))), some (.inl x1), some (.inl x2), some (.inl x3), some (.inl x4), some (.inr (.inl x5)), none, some (.inl x7), none] [] h Q := by
  have hp : ∀ k, (am_prog scr).1 f_M_laysHeard k = c_M_laysHeard k := fun _ => rfl
  refine am_R.next ((hp 71).trans rfl) rfl ?_
  refine am_R.next ((hp 73).trans rfl) rfl ?_
  refine r_ic ((hp 75).trans rfl) (fun c15 => ?_) (fun c15 => ?_)
  · have H := H.1 c15
    refine am_R.next ((hp 135).trans rfl) rfl ?_
    refine r_getR ((hp 136).trans rfl) (hw.o (i := 109) (by decide) rfl) (hw.r wr_109_35) ?_
    refine am_R.next ((hp 139).trans rfl) rfl ?_
    refine am_R.next ((hp 142).trans rfl) rfl ?_
    refine am_R.next ((hp 143).trans rfl) rfl ?_
    refine am_R.next ((hp 144).trans rfl) rfl ?_
    refine r_getR ((hp 145).trans rfl) (hw.o (i := 109) (by decide) rfl) (hw.r wr_109_24) ?_
    refine am_R.next ((hp 148).trans rfl) rfl ?_
    obtain ⟨c1, H⟩ := H
    refine r_iald ((hp 150).trans rfl) (hw.a (i := 119) (by decide) rfl c1.1 c1.2) ?_
    refine am_R.next ((hp 151).trans rfl) rfl ?_
    refine am_R.next ((hp 152).trans rfl) rfl ?_
    obtain ⟨c2, H⟩ := H
    obtain ⟨h3, eh3⟩ : ∃ z : am_H, z = am_put h 128 ((am_w ((am_w (360 * x3)) + (h.2.2.2 119 x4.toNat))).toNat) x5 := ⟨_, rfl⟩
    have H := H h3 eh3
    refine r_last ((hp 154).trans rfl) (hw.a (i := 128) (by decide) rfl c2.1 c2.2) ?_
    have hw : wf h3 := by rw [eh3]; exact hw.pa na_128
    change am_R _ _ _ _ _ _ (am_put h 128 ((am_w ((am_w (360 * x3)) + (h.2.2.2 119 x4.toNat))).toNat) x5) _
    rw [← eh3]
    obtain ⟨y4, ey4⟩ : ∃ z : Int, z = am_w (x4 + 1) := ⟨_, rfl⟩
    have H := H y4 ey4
    refine am_R.next (lv' := [some (.inr (.inr ((109 : Nat) : Int))), some (.inl x1), some (.inl x2), some (.inl x3), some (.inl y4), some (.inr (.inl x5)), none, some (.inl x7), none]) (st' := []) (h' := h3) (pc' := 158) ((hp 155).trans rfl) (by rw [ey4]; rfl) ?_
    refine am_R.next ((hp 158).trans rfl) rfl ?_
    exact r_le hs in_102 (le_k (le_k (le_k (le_k (le_k (le_d (le_k (le_d (le_k le_n))))))))) H
  · have H := H.2 (Decidable.not_not.mp c15)
    refine am_R.next ((hp 78).trans rfl) rfl ?_
    refine r_getR ((hp 79).trans rfl) (hw.o (i := 109) (by decide) rfl) (hw.r wr_109_25) ?_
    refine am_R.next ((hp 82).trans rfl) rfl ?_
    refine am_R.next ((hp 84).trans rfl) rfl ?_
    refine r_getR ((hp 85).trans rfl) (hw.o (i := 109) (by decide) rfl) (hw.r wr_109_24) ?_
    refine am_R.next ((hp 88).trans rfl) rfl ?_
    obtain ⟨c5, H⟩ := H
    refine r_iald ((hp 90).trans rfl) (hw.a (i := 119) (by decide) rfl c5.1 c5.2) ?_
    refine am_R.next ((hp 91).trans rfl) rfl ?_
    refine am_R.next ((hp 92).trans rfl) rfl ?_
    refine am_R.next ((hp 94).trans rfl) rfl ?_
    obtain ⟨c6, H⟩ := H
    refine r_iald ((hp 95).trans rfl) (hw.a (i := 120) (by decide) rfl c6.1 c6.2) ?_
    obtain ⟨y7, ey7⟩ : ∃ z : Int, z = h.2.2.2 120 ((am_w ((am_w (7 * (h.2.2.2 119 x4.toNat))) + x7)).toNat) := ⟨_, rfl⟩
    have H := H y7 ey7
    refine am_R.next (lv' := [some (.inr (.inr ((109 : Nat) : Int))), some (.inl x1), some (.inl x2), some (.inl x3), some (.inl x4), some (.inr (.inl x5)), none, some (.inl x7), some (.inl y7)]) (st' := []) (h' := h) (pc' := 98) ((hp 96).trans rfl) (by rw [ey7]; rfl) ?_
    refine am_R.next ((hp 98).trans rfl) rfl ?_
    refine am_R.next ((hp 99).trans rfl) rfl ?_
    refine am_R.next ((hp 100).trans rfl) rfl ?_
    refine am_R.next ((hp 101).trans rfl) rfl ?_
    refine r_cv (bs := [.inl x1, .inl x3, .inl y7]) (st' := []) ((hp 103).trans rfl) (hw.o (i := 109) (by decide) rfl) rfl rfl (Nat.le_of_ble_eq_true rfl) (Nat.le_of_ble_eq_true rfl) (am_R.post H (fun v g8 hq => ?_))
    obtain ⟨r9, rfl, hw, H⟩ := hq
    change am_R _ _ _ _ _ [.inl r9] _ _
    refine r_if ((hp 106).trans rfl) (fun c14 => ?_) (fun c14 => ?_)
    · have H := H.1 c14
      obtain ⟨y10, ey10⟩ : ∃ z : Int, z = am_w (x7 + 1) := ⟨_, rfl⟩
      have H := H y10 ey10
      refine am_R.next (lv' := [some (.inr (.inr ((109 : Nat) : Int))), some (.inl x1), some (.inl x2), some (.inl x3), some (.inl x4), some (.inr (.inl x5)), none, some (.inl y10), some (.inl y7)]) (st' := []) (h' := g8) (pc' := 132) ((hp 129).trans rfl) (by rw [ey10]; rfl) ?_
      refine am_R.next ((hp 132).trans rfl) rfl ?_
      exact r_le hs in_102 (le_k (le_k (le_k (le_k (le_k (le_k (le_k (le_k (le_d le_n))))))))) H
    · have H := H.2 c14
      refine am_R.next ((hp 109).trans rfl) rfl ?_
      refine am_R.next ((hp 111).trans rfl) rfl ?_
      refine r_getR ((hp 112).trans rfl) (hw.o (i := 109) (by decide) rfl) (hw.r wr_109_35) ?_
      refine am_R.next ((hp 115).trans rfl) rfl ?_
      refine am_R.next ((hp 118).trans rfl) rfl ?_
      refine am_R.next ((hp 119).trans rfl) rfl ?_
      refine am_R.next ((hp 120).trans rfl) rfl ?_
      refine am_R.next ((hp 121).trans rfl) rfl ?_
      refine am_R.next ((hp 122).trans rfl) rfl ?_
      refine am_R.next ((hp 124).trans rfl) rfl ?_
      obtain ⟨c11, H⟩ := H
      refine r_lald ((hp 125).trans rfl) (hw.a (i := 128) (by decide) rfl c11.1 c11.2) ?_
      refine am_R.next ((hp 126).trans rfl) rfl ?_
      obtain ⟨y12, ey12⟩ : ∃ z : Int, z = am_W (x5 + (g8.2.2.2 128 ((am_w ((am_w (360 * (am_w (x3 + 1)))) + y7)).toNat))) := ⟨_, rfl⟩
      have H := H y12 ey12
      refine am_R.next (lv' := [some (.inr (.inr ((109 : Nat) : Int))), some (.inl x1), some (.inl x2), some (.inl x3), some (.inl x4), some (.inr (.inl y12)), none, some (.inl x7), some (.inl y7)]) (st' := []) (h' := g8) (pc' := 129) ((hp 127).trans rfl) (by rw [ey12]; rfl) ?_
      obtain ⟨y13, ey13⟩ : ∃ z : Int, z = am_w (x7 + 1) := ⟨_, rfl⟩
      have H := H y13 ey13
      refine am_R.next (lv' := [some (.inr (.inr ((109 : Nat) : Int))), some (.inl x1), some (.inl x2), some (.inl x3), some (.inl x4), some (.inr (.inl y12)), none, some (.inl y13), some (.inl y7)]) (st' := []) (h' := g8) (pc' := 132) ((hp 129).trans rfl) (by rw [ey13]; rfl) ?_
      refine am_R.next ((hp 132).trans rfl) rfl ?_
      exact r_le hs in_102 (le_k (le_k (le_k (le_k (le_k (le_k (le_k (le_k (le_d le_n))))))))) H
theorem w_M_heard_0 {scr : Nat × (Nat → Int)} {d : Nat} {h : am_H} {Q : Option am_V → am_H → Prop} {x1 : Int} (hs : am_sc scr) (hw : wf h) (H : ∀ h1 : am_H, h1 = am_put h 109 0 0 → (am_R (am_prog scr) d f_M_noHeard 0 [some (.inr (.inr ((109 : Nat) : Int))), some (.inl x1), none, none] [] h1 (fun v g2 => ∃ r3 : Int, v = some (.inl r3) ∧ wf g2 ∧ ((r3 = 0 → (am_R (am_prog scr) d f_M_laysHeard 0 [some (.inr (.inr ((109 : Nat) : Int))), some (.inl x1), none, none, none, none, none, none, none] [] g2 (fun v g4 => ∃ r5 : Int, v = some (.inr (.inl r5)) ∧ wf g4 ∧ (Q (some (.inr (.inl r5))) g4)))) ∧ (¬ (r3 = 0) → (Q (some (.inr (.inl r3))) g2)))))) : am_R (am_prog scr) (d + 1) f_M_heard 0 [some (.inr (.inr ((109 : Nat) : Int))), some (.inl x1), none] [] h Q := by
  have hp : ∀ k, (am_prog scr).1 f_M_heard k = c_M_heard k := fun _ => rfl
  refine am_R.next ((hp 0).trans rfl) rfl ?_
  refine am_R.next ((hp 1).trans rfl) rfl ?_
  obtain ⟨h1, eh1⟩ : ∃ z : am_H, z = am_put h 109 0 0 := ⟨_, rfl⟩
  have H := H h1 eh1
  refine r_putI ((hp 2).trans rfl) (hw.o (i := 109) (by decide) rfl) ?_
  have hw : wf h1 := by rw [eh1]; exact hw.put np_109_0
  change am_R _ _ _ _ _ _ (am_put h 109 0 0) _
  rw [← eh1]
  refine am_R.next ((hp 5).trans rfl) rfl ?_
  refine am_R.next ((hp 6).trans rfl) rfl ?_
  refine r_cv (bs := [.inl x1]) (st' := []) ((hp 7).trans rfl) (hw.o (i := 109) (by decide) rfl) rfl rfl (Nat.le_of_ble_eq_true rfl) (Nat.le_of_ble_eq_true rfl) (am_R.post H (fun v g2 hq => ?_))
  obtain ⟨r3, rfl, hw, H⟩ := hq
  change am_R _ _ _ _ _ [.inl r3] _ _
  refine am_R.next (lv' := [some (.inr (.inr ((109 : Nat) : Int))), some (.inl x1), some (.inl r3)]) ((hp 10).trans rfl) rfl ?_
  refine am_R.next ((hp 11).trans rfl) rfl ?_
  refine r_if ((hp 12).trans rfl) (fun c6 => ?_) (fun c6 => ?_)
  · have H := H.1 c6
    refine am_R.next ((hp 20).trans rfl) rfl ?_
    refine am_R.next ((hp 21).trans rfl) rfl ?_
    refine r_cv (bs := [.inl x1]) (st' := []) ((hp 22).trans rfl) (hw.o (i := 109) (by decide) rfl) rfl rfl (Nat.le_of_ble_eq_true rfl) (Nat.le_of_ble_eq_true rfl) (am_R.post H (fun v g4 hq => ?_))
    obtain ⟨r5, rfl, hw, H⟩ := hq
    change am_R _ _ _ _ _ [.inr (.inl r5)] _ _
    exact am_R.ret ((hp 25).trans rfl) rfl H
  · have H := H.2 c6
    refine am_R.next ((hp 15).trans rfl) rfl ?_
    refine am_R.next ((hp 16).trans rfl) rfl ?_
    refine am_R.next ((hp 17).trans rfl) rfl ?_
    exact am_R.ret ((hp 25).trans rfl) rfl H
theorem w_M_heardBy_0 {scr : Nat × (Nat → Int)} {d : Nat} {h : am_H} {Q : Option am_V → am_H → Prop} {x1 x2 : Int} (hs : am_sc scr) (hw : wf h) (H : ∀ h1 : am_H, h1 = am_put h 109 0 0 → (am_R (am_prog scr) d f_M_noHeard 0 [some (.inr (.inr ((109 : Nat) : Int))), some (.inl x1), none, none] [] h1 (fun v g2 => ∃ r3 : Int, v = some (.inl r3) ∧ wf g2 ∧ ((r3 = 0 → ((¬ (x2 < 0) → (am_R (am_prog scr) d f_M_laysHeard 0 [some (.inr (.inr ((109 : Nat) : Int))), some (.inl x1), none, none, none, none, none, none, none] [] g2 (fun v g4 => ∃ r5 : Int, v = some (.inr (.inl r5)) ∧ wf g4 ∧ ((r5 = 0 → (Q (some (.inl (-1))) g4)) ∧ (¬ (r5 = 0) → ((0 ≤ x1 ∧ x1 < 4) ∧ ((x2 < (g4.2.2.2 131 x1.toNat) → (am_R (am_prog scr) d f_M_standNow 0 [some (.inr (.inr ((109 : Nat) : Int)))] [] g4 (fun v g7 => ∃ r8 : Int, v = some (.inl r8) ∧ wf g7 ∧ (am_R (am_prog scr) (d + 1) f_M_heardBy 55 [some (.inr (.inr ((109 : Nat) : Int))), some (.inl x1), some (.inl x2), some (.inl r3), some (.inl r8), some (.inl 0), none] [] g7 Q)))) ∧ (¬ (x2 < (g4.2.2.2 131 x1.toNat)) → (Q (some (.inl (-1))) g4))))))))) ∧ (x2 < 0 → (Q (some (.inl (-3))) g2)))) ∧ (¬ (r3 = 0) → (Q (some (.inl r3)) g2)))))) : am_R (am_prog scr) (d + 1) f_M_heardBy 0 [some (.inr (.inr ((109 : Nat) : Int))), some (.inl x1), some (.inl x2), none, none, none, none] [] h Q := by
  have hp : ∀ k, (am_prog scr).1 f_M_heardBy k = c_M_heardBy k := fun _ => rfl
  refine am_R.next ((hp 0).trans rfl) rfl ?_
  refine am_R.next ((hp 1).trans rfl) rfl ?_
  obtain ⟨h1, eh1⟩ : ∃ z : am_H, z = am_put h 109 0 0 := ⟨_, rfl⟩
  have H := H h1 eh1
  refine r_putI ((hp 2).trans rfl) (hw.o (i := 109) (by decide) rfl) ?_
  have hw : wf h1 := by rw [eh1]; exact hw.put np_109_0
  change am_R _ _ _ _ _ _ (am_put h 109 0 0) _
  rw [← eh1]
  refine am_R.next ((hp 5).trans rfl) rfl ?_
  refine am_R.next ((hp 6).trans rfl) rfl ?_
  refine r_cv (bs := [.inl x1]) (st' := []) ((hp 7).trans rfl) (hw.o (i := 109) (by decide) rfl) rfl rfl (Nat.le_of_ble_eq_true rfl) (Nat.le_of_ble_eq_true rfl) (am_R.post H (fun v g2 hq => ?_))
  obtain ⟨r3, rfl, hw, H⟩ := hq
  change am_R _ _ _ _ _ [.inl r3] _ _
  refine am_R.next (lv' := [some (.inr (.inr ((109 : Nat) : Int))), some (.inl x1), some (.inl x2), some (.inl r3), none, none, none]) ((hp 10).trans rfl) rfl ?_
  refine am_R.next ((hp 11).trans rfl) rfl ?_
  refine r_if ((hp 12).trans rfl) (fun c12 => ?_) (fun c12 => ?_)
  · have H := H.1 c12
    refine am_R.next ((hp 17).trans rfl) rfl ?_
    refine r_if ((hp 18).trans rfl) (fun c11 => ?_) (fun c11 => ?_)
    · have H := H.1 c11
      refine am_R.next ((hp 24).trans rfl) rfl ?_
      refine am_R.next ((hp 25).trans rfl) rfl ?_
      refine r_cv (bs := [.inl x1]) (st' := []) ((hp 26).trans rfl) (hw.o (i := 109) (by decide) rfl) rfl rfl (Nat.le_of_ble_eq_true rfl) (Nat.le_of_ble_eq_true rfl) (am_R.post H (fun v g4 hq => ?_))
      obtain ⟨r5, rfl, hw, H⟩ := hq
      change am_R _ _ _ _ _ [.inr (.inl r5)] _ _
      refine am_R.next ((hp 29).trans rfl) rfl ?_
      refine am_R.next ((hp 30).trans rfl) rfl ?_
      refine r_if ((hp 31).trans rfl) (fun c10 => ?_) (fun c10 => ?_)
      · have H := H.1 (lc_eqt c10)
        refine am_R.next ((hp 44).trans rfl) rfl ?_
        exact am_R.ret ((hp 45).trans rfl) rfl H
      · have H := H.2 (lc_eqf c10)
        refine am_R.next ((hp 34).trans rfl) rfl ?_
        refine am_R.next ((hp 35).trans rfl) rfl ?_
        refine r_getR ((hp 36).trans rfl) (hw.o (i := 109) (by decide) rfl) (hw.r wr_109_38) ?_
        refine am_R.next ((hp 39).trans rfl) rfl ?_
        obtain ⟨c6, H⟩ := H
        refine r_iald ((hp 40).trans rfl) (hw.a (i := 131) (by decide) rfl c6.1 c6.2) ?_
        refine r_ic ((hp 41).trans rfl) (fun c9 => ?_) (fun c9 => ?_)
        · have H := H.1 c9
          refine am_R.next ((hp 46).trans rfl) rfl ?_
          refine r_cv (bs := []) (st' := []) ((hp 47).trans rfl) (hw.o (i := 109) (by decide) rfl) rfl rfl (Nat.le_of_ble_eq_true rfl) (Nat.le_of_ble_eq_true rfl) (am_R.post H (fun v g7 hq => ?_))
          obtain ⟨r8, rfl, hw, H⟩ := hq
          change am_R _ _ _ _ _ [.inl r8] _ _
          refine am_R.next (lv' := [some (.inr (.inr ((109 : Nat) : Int))), some (.inl x1), some (.inl x2), some (.inl r3), some (.inl r8), none, none]) ((hp 50).trans rfl) rfl ?_
          refine am_R.next ((hp 52).trans rfl) rfl ?_
          refine am_R.next (lv' := [some (.inr (.inr ((109 : Nat) : Int))), some (.inl x1), some (.inl x2), some (.inl r3), some (.inl r8), some (.inl 0), none]) ((hp 53).trans rfl) rfl ?_
          exact H
        · have H := H.2 c9
          refine am_R.next ((hp 44).trans rfl) rfl ?_
          exact am_R.ret ((hp 45).trans rfl) rfl H
    · have H := H.2 (Decidable.not_not.mp c11)
      refine am_R.next ((hp 21).trans rfl) rfl ?_
      exact am_R.ret ((hp 23).trans rfl) rfl H
  · have H := H.2 c12
    refine am_R.next ((hp 15).trans rfl) rfl ?_
    exact am_R.ret ((hp 16).trans rfl) rfl H
theorem w_M_heardBy_55 {scr : Nat × (Nat → Int)} {d : Nat} {h : am_H} {Q : Option am_V → am_H → Prop} {x1 x2 x3 x4 x5 : Int} (hs : am_sc scr) (hw : wf h) (H : am_R (am_prog scr) (d + 1) f_M_heardBy 58 [some (.inr (.inr ((109 : Nat) : Int))), some (.inl x1), some (.inl x2), some (.inl x3), some (.inl x4), some (.inl x5), some (.inl 0)] [] h Q) : am_R (am_prog scr) (d + 1) f_M_heardBy 55 [some (.inr (.inr ((109 : Nat) : Int))), some (.inl x1), some (.inl x2), some (.inl x3), some (.inl x4), some (.inl x5), none] [] h Q := by
  have hp : ∀ k, (am_prog scr).1 f_M_heardBy k = c_M_heardBy k := fun _ => rfl
  refine am_R.next ((hp 55).trans rfl) rfl ?_
  refine am_R.next (lv' := [some (.inr (.inr ((109 : Nat) : Int))), some (.inl x1), some (.inl x2), some (.inl x3), some (.inl x4), some (.inl x5), some (.inl 0)]) ((hp 56).trans rfl) rfl ?_
  exact H
theorem w_M_heardBy_58 {scr : Nat × (Nat → Int)} {d : Nat} {h : am_H} {Q : Option am_V → am_H → Prop} {x1 x2 x3 x4 x5 x6 : Int} (hs : am_sc scr) (hw : wf h) (H : (0 ≤ (am_w ((am_w (7 * x4)) + x6)) ∧ (am_w ((am_w (7 * x4)) + x6)) < 2520) ∧ (am_R (am_prog scr) d f_M_isHeard 0 [some (.inr (.inr ((109 : Nat) : Int))), some (.inl x1), some (.inl x5), some (.inl (h.2.2.2 120 ((am_w ((am_w (7 * x4)) + x6)).toNat)))] [] h (fun v g2 => ∃ r3 : Int, v = some (.inl r3) ∧ wf g2 ∧ ((r3 = 0 → (∀ y4 : Int, y4 = am_w (x6 + 1) → (am_R (am_prog scr) (d + 1) f_M_heardBy 58 [some (.inr (.inr ((109 : Nat) : Int))), some (.inl x1), some (.inl x2), some (.inl x3), some (.inl x4), some (.inl x5), some (.inl y4)] [] g2 Q))) ∧ (¬ (r3 = 0) → ((0 ≤ (am_w ((am_w (7 * x4)) + x6)) ∧ (am_w ((am_w (7 * x4)) + x6)) < 2520) ∧ ((0 ≤ (am_w ((am_w (360 * (am_w (x5 + 1)))) + (g2.2.2.2 120 ((am_w ((am_w (7 * x4)) + x6)).toNat)))) ∧ (am_w ((am_w (360 * (am_w (x5 + 1)))) + (g2.2.2.2 120 ((am_w ((am_w (7 * x4)) + x6)).toNat)))) < 3240) ∧ ((¬ ((g2.2.2.2 128 ((am_w ((am_w (360 * (am_w (x5 + 1)))) + (g2.2.2.2 120 ((am_w ((am_w (7 * x4)) + x6)).toNat)))).toNat)) = 0) → ((¬ (x5 = x2) → ((0 ≤ (am_w ((am_w (7 * x4)) + x6)) ∧ (am_w ((am_w (7 * x4)) + x6)) < 2520) ∧ (∀ y8 : Int, y8 = g2.2.2.2 120 ((am_w ((am_w (7 * x4)) + x6)).toNat) → (∀ y9 : Int, y9 = am_w (x5 + 1) → (am_R (am_prog scr) (d + 1) f_M_heardBy 55 [some (.inr (.inr ((109 : Nat) : Int))), some (.inl x1), some (.inl x2), some (.inl x3), some (.inl y8), some (.inl y9), none] [] g2 Q))))) ∧ (x5 = x2 → (Q (some (.inl x6)) g2)))) ∧ ((g2.2.2.2 128 ((am_w ((am_w (360 * (am_w (x5 + 1)))) + (g2.2.2.2 120 ((am_w ((am_w (7 * x4)) + x6)).toNat)))).toNat)) = 0 → (∀ y11 : Int, y11 = am_w (x6 + 1) → (am_R (am_prog scr) (d + 1) f_M_heardBy 58 [some (.inr (.inr ((109 : Nat) : Int))), some (.inl x1), some (.inl x2), some (.inl x3), some (.inl x4), some (.inl x5), some (.inl y11)] [] g2 Q))))))))))) : am_R (am_prog scr) (d + 1) f_M_heardBy 58 [some (.inr (.inr ((109 : Nat) : Int))), some (.inl x1), some (.inl x2), some (.inl x3), some (.inl x4), some (.inl x5), some (.inl x6)] [] h Q := by
  have hp : ∀ k, (am_prog scr).1 f_M_heardBy k = c_M_heardBy k := fun _ => rfl
  refine am_R.next ((hp 58).trans rfl) rfl ?_
  refine am_R.next ((hp 59).trans rfl) rfl ?_
  refine am_R.next ((hp 60).trans rfl) rfl ?_
  refine am_R.next ((hp 62).trans rfl) rfl ?_
  refine r_getR ((hp 63).trans rfl) (hw.o (i := 109) (by decide) rfl) (hw.r wr_109_25) ?_
  refine am_R.next ((hp 66).trans rfl) rfl ?_
  refine am_R.next ((hp 68).trans rfl) rfl ?_
  refine am_R.next ((hp 70).trans rfl) rfl ?_
  refine am_R.next ((hp 71).trans rfl) rfl ?_
  refine am_R.next ((hp 73).trans rfl) rfl ?_
  obtain ⟨c1, H⟩ := H
  refine r_iald ((hp 74).trans rfl) (hw.a (i := 120) (by decide) rfl c1.1 c1.2) ?_
  refine r_cv (bs := [.inl x1, .inl x5, .inl (h.2.2.2 120 ((am_w ((am_w (7 * x4)) + x6)).toNat))]) (st' := []) ((hp 75).trans rfl) (hw.o (i := 109) (by decide) rfl) rfl rfl (Nat.le_of_ble_eq_true rfl) (Nat.le_of_ble_eq_true rfl) (am_R.post H (fun v g2 hq => ?_))
  obtain ⟨r3, rfl, hw, H⟩ := hq
  change am_R _ _ _ _ _ [.inl r3] _ _
  refine r_if ((hp 78).trans rfl) (fun c13 => ?_) (fun c13 => ?_)
  · have H := H.1 c13
    obtain ⟨y4, ey4⟩ : ∃ z : Int, z = am_w (x6 + 1) := ⟨_, rfl⟩
    have H := H y4 ey4
    refine am_R.next (lv' := [some (.inr (.inr ((109 : Nat) : Int))), some (.inl x1), some (.inl x2), some (.inl x3), some (.inl x4), some (.inl x5), some (.inl y4)]) (st' := []) (h' := g2) (pc' := 116) ((hp 113).trans rfl) (by rw [ey4]; rfl) ?_
    refine am_R.next ((hp 116).trans rfl) rfl ?_
    exact H
  · have H := H.2 c13
    refine am_R.next ((hp 81).trans rfl) rfl ?_
    refine r_getR ((hp 82).trans rfl) (hw.o (i := 109) (by decide) rfl) (hw.r wr_109_35) ?_
    refine am_R.next ((hp 85).trans rfl) rfl ?_
    refine am_R.next ((hp 88).trans rfl) rfl ?_
    refine am_R.next ((hp 90).trans rfl) rfl ?_
    refine am_R.next ((hp 91).trans rfl) rfl ?_
    refine am_R.next ((hp 92).trans rfl) rfl ?_
    refine am_R.next ((hp 93).trans rfl) rfl ?_
    refine r_getR ((hp 94).trans rfl) (hw.o (i := 109) (by decide) rfl) (hw.r wr_109_25) ?_
    refine am_R.next ((hp 97).trans rfl) rfl ?_
    refine am_R.next ((hp 99).trans rfl) rfl ?_
    refine am_R.next ((hp 101).trans rfl) rfl ?_
    refine am_R.next ((hp 102).trans rfl) rfl ?_
    refine am_R.next ((hp 104).trans rfl) rfl ?_
    obtain ⟨c5, H⟩ := H
    refine r_iald ((hp 105).trans rfl) (hw.a (i := 120) (by decide) rfl c5.1 c5.2) ?_
    refine am_R.next ((hp 106).trans rfl) rfl ?_
    obtain ⟨c6, H⟩ := H
    refine r_lald ((hp 107).trans rfl) (hw.a (i := 128) (by decide) rfl c6.1 c6.2) ?_
    refine am_R.next ((hp 108).trans rfl) rfl ?_
    refine am_R.next ((hp 109).trans rfl) rfl ?_
    refine r_if ((hp 110).trans rfl) (fun c12 => ?_) (fun c12 => ?_)
    · have H := H.1 (lc_net c12)
      refine am_R.next ((hp 119).trans rfl) rfl ?_
      refine am_R.next ((hp 121).trans rfl) rfl ?_
      refine r_ic ((hp 122).trans rfl) (fun c10 => ?_) (fun c10 => ?_)
      · have H := H.1 c10
        refine am_R.next ((hp 128).trans rfl) rfl ?_
        refine r_getR ((hp 129).trans rfl) (hw.o (i := 109) (by decide) rfl) (hw.r wr_109_25) ?_
        refine am_R.next ((hp 132).trans rfl) rfl ?_
        refine am_R.next ((hp 134).trans rfl) rfl ?_
        refine am_R.next ((hp 136).trans rfl) rfl ?_
        refine am_R.next ((hp 137).trans rfl) rfl ?_
        refine am_R.next ((hp 139).trans rfl) rfl ?_
        obtain ⟨c7, H⟩ := H
        refine r_iald ((hp 140).trans rfl) (hw.a (i := 120) (by decide) rfl c7.1 c7.2) ?_
        obtain ⟨y8, ey8⟩ : ∃ z : Int, z = g2.2.2.2 120 ((am_w ((am_w (7 * x4)) + x6)).toNat) := ⟨_, rfl⟩
        have H := H y8 ey8
        refine am_R.next (lv' := [some (.inr (.inr ((109 : Nat) : Int))), some (.inl x1), some (.inl x2), some (.inl x3), some (.inl y8), some (.inl x5), some (.inl x6)]) (st' := []) (h' := g2) (pc' := 143) ((hp 141).trans rfl) (by rw [ey8]; rfl) ?_
        obtain ⟨y9, ey9⟩ : ∃ z : Int, z = am_w (x5 + 1) := ⟨_, rfl⟩
        have H := H y9 ey9
        refine am_R.next (lv' := [some (.inr (.inr ((109 : Nat) : Int))), some (.inl x1), some (.inl x2), some (.inl x3), some (.inl y8), some (.inl y9), some (.inl x6)]) (st' := []) (h' := g2) (pc' := 146) ((hp 143).trans rfl) (by rw [ey9]; rfl) ?_
        refine am_R.next ((hp 146).trans rfl) rfl ?_
        exact r_le hs in_104 (le_k (le_k (le_k (le_k (le_k (le_k (le_d le_n))))))) H
      · have H := H.2 (Decidable.not_not.mp c10)
        refine am_R.next ((hp 125).trans rfl) rfl ?_
        exact am_R.ret ((hp 127).trans rfl) rfl H
    · have H := H.2 (lc_nef c12)
      obtain ⟨y11, ey11⟩ : ∃ z : Int, z = am_w (x6 + 1) := ⟨_, rfl⟩
      have H := H y11 ey11
      refine am_R.next (lv' := [some (.inr (.inr ((109 : Nat) : Int))), some (.inl x1), some (.inl x2), some (.inl x3), some (.inl x4), some (.inl x5), some (.inl y11)]) (st' := []) (h' := g2) (pc' := 116) ((hp 113).trans rfl) (by rw [ey11]; rfl) ?_
      refine am_R.next ((hp 116).trans rfl) rfl ?_
      exact H
theorem w_M_suspects_0 {scr : Nat × (Nat → Int)} {d : Nat} {h : am_H} {Q : Option am_V → am_H → Prop} {x1 x2 : Int} (hs : am_sc scr) (hw : wf h) (H : ∀ h1 : am_H, h1 = am_put h 109 0 0 → (am_R (am_prog scr) d f_M_noHeard 0 [some (.inr (.inr ((109 : Nat) : Int))), some (.inl x1), none, none] [] h1 (fun v g2 => ∃ r3 : Int, v = some (.inl r3) ∧ wf g2 ∧ ((r3 = 0 → ((¬ (x2 < 0) → ((0 ≤ x1 ∧ x1 < 4) ∧ ((x2 < (g2.2.2.2 131 x1.toNat) → (am_R (am_prog scr) d f_M_laysHeard 0 [some (.inr (.inr ((109 : Nat) : Int))), some (.inl x1), none, none, none, none, none, none, none] [] g2 (fun v g5 => ∃ r6 : Int, v = some (.inr (.inl r6)) ∧ wf g5 ∧ ((¬ (r6 = 0) → (am_R (am_prog scr) d f_M_beginsMany 0 [some (.inr (.inr ((109 : Nat) : Int))), none] [] g5 (fun v g7 => v = none ∧ wf g7 ∧ (am_R (am_prog scr) (d + 1) f_M_suspects 60 [some (.inr (.inr ((109 : Nat) : Int))), some (.inl x1), some (.inl x2), some (.inl r3), some (.inl 0), some (.inl 0), none, none, none] [] g7 Q)))) ∧ (r6 = 0 → (Q (some (.inl 0)) g5)))))) ∧ (¬ (x2 < (g2.2.2.2 131 x1.toNat)) → (Q (some (.inl (-7))) g2))))) ∧ (x2 < 0 → (Q (some (.inl (-3))) g2)))) ∧ (¬ (r3 = 0) → (Q (some (.inl r3)) g2)))))) : am_R (am_prog scr) (d + 1) f_M_suspects 0 [some (.inr (.inr ((109 : Nat) : Int))), some (.inl x1), some (.inl x2), none, none, none, none, none, none] [] h Q := by
  have hp : ∀ k, (am_prog scr).1 f_M_suspects k = c_M_suspects k := fun _ => rfl
  refine am_R.next ((hp 0).trans rfl) rfl ?_
  refine am_R.next ((hp 1).trans rfl) rfl ?_
  obtain ⟨h1, eh1⟩ : ∃ z : am_H, z = am_put h 109 0 0 := ⟨_, rfl⟩
  have H := H h1 eh1
  refine r_putI ((hp 2).trans rfl) (hw.o (i := 109) (by decide) rfl) ?_
  have hw : wf h1 := by rw [eh1]; exact hw.put np_109_0
  change am_R _ _ _ _ _ _ (am_put h 109 0 0) _
  rw [← eh1]
  refine am_R.next ((hp 5).trans rfl) rfl ?_
  refine am_R.next ((hp 6).trans rfl) rfl ?_
  refine r_cv (bs := [.inl x1]) (st' := []) ((hp 7).trans rfl) (hw.o (i := 109) (by decide) rfl) rfl rfl (Nat.le_of_ble_eq_true rfl) (Nat.le_of_ble_eq_true rfl) (am_R.post H (fun v g2 hq => ?_))
  obtain ⟨r3, rfl, hw, H⟩ := hq
  change am_R _ _ _ _ _ [.inl r3] _ _
  refine am_R.next (lv' := [some (.inr (.inr ((109 : Nat) : Int))), some (.inl x1), some (.inl x2), some (.inl r3), none, none, none, none, none]) ((hp 10).trans rfl) rfl ?_
  refine am_R.next ((hp 11).trans rfl) rfl ?_
  refine r_if ((hp 12).trans rfl) (fun c11 => ?_) (fun c11 => ?_)
  · have H := H.1 c11
    refine am_R.next ((hp 17).trans rfl) rfl ?_
    refine r_if ((hp 18).trans rfl) (fun c10 => ?_) (fun c10 => ?_)
    · have H := H.1 c10
      refine am_R.next ((hp 24).trans rfl) rfl ?_
      refine am_R.next ((hp 25).trans rfl) rfl ?_
      refine r_getR ((hp 26).trans rfl) (hw.o (i := 109) (by decide) rfl) (hw.r wr_109_38) ?_
      refine am_R.next ((hp 29).trans rfl) rfl ?_
      obtain ⟨c4, H⟩ := H
      refine r_iald ((hp 30).trans rfl) (hw.a (i := 131) (by decide) rfl c4.1 c4.2) ?_
      refine r_ic ((hp 31).trans rfl) (fun c9 => ?_) (fun c9 => ?_)
      · have H := H.1 c9
        refine am_R.next ((hp 37).trans rfl) rfl ?_
        refine am_R.next (lv' := [some (.inr (.inr ((109 : Nat) : Int))), some (.inl x1), some (.inl x2), some (.inl r3), some (.inl 0), none, none, none, none]) ((hp 38).trans rfl) rfl ?_
        refine am_R.next ((hp 40).trans rfl) rfl ?_
        refine am_R.next ((hp 41).trans rfl) rfl ?_
        refine r_cv (bs := [.inl x1]) (st' := []) ((hp 42).trans rfl) (hw.o (i := 109) (by decide) rfl) rfl rfl (Nat.le_of_ble_eq_true rfl) (Nat.le_of_ble_eq_true rfl) (am_R.post H (fun v g5 hq => ?_))
        obtain ⟨r6, rfl, hw, H⟩ := hq
        change am_R _ _ _ _ _ [.inr (.inl r6)] _ _
        refine am_R.next ((hp 45).trans rfl) rfl ?_
        refine am_R.next ((hp 46).trans rfl) rfl ?_
        refine r_if ((hp 47).trans rfl) (fun c8 => ?_) (fun c8 => ?_)
        · have H := H.1 (lc_net c8)
          refine am_R.next ((hp 53).trans rfl) rfl ?_
          refine r_cv (bs := []) (st' := []) ((hp 54).trans rfl) (hw.o (i := 109) (by decide) rfl) rfl rfl (Nat.le_of_ble_eq_true rfl) (Nat.le_of_ble_eq_true rfl) (am_R.post H (fun v g7 hq => ?_))
          obtain ⟨rfl, hw, H⟩ := hq
          change am_R _ _ _ _ _ [] _ _
          refine am_R.next ((hp 57).trans rfl) rfl ?_
          refine am_R.next (lv' := [some (.inr (.inr ((109 : Nat) : Int))), some (.inl x1), some (.inl x2), some (.inl r3), some (.inl 0), some (.inl 0), none, none, none]) ((hp 58).trans rfl) rfl ?_
          exact H
        · have H := H.2 (lc_nef c8)
          refine am_R.next ((hp 50).trans rfl) rfl ?_
          exact am_R.ret ((hp 52).trans rfl) rfl H
      · have H := H.2 c9
        refine am_R.next ((hp 34).trans rfl) rfl ?_
        exact am_R.ret ((hp 36).trans rfl) rfl H
    · have H := H.2 (Decidable.not_not.mp c10)
      refine am_R.next ((hp 21).trans rfl) rfl ?_
      exact am_R.ret ((hp 23).trans rfl) rfl H
  · have H := H.2 c11
    refine am_R.next ((hp 15).trans rfl) rfl ?_
    exact am_R.ret ((hp 16).trans rfl) rfl H
theorem w_M_suspects_60 {scr : Nat × (Nat → Int)} {d : Nat} {h : am_H} {Q : Option am_V → am_H → Prop} {x1 x2 x3 x4 x5 : Int} (hs : am_sc scr) (hw : wf h) (H : (x2 < x5 → (am_R (am_prog scr) (d + 1) f_M_suspects 191 [some (.inr (.inr ((109 : Nat) : Int))), some (.inl x1), some (.inl x2), some (.inl x3), some (.inl x4), some (.inl 0), none, none, none] [] h Q)) ∧ (¬ (x2 < x5) → (am_R (am_prog scr) (d + 1) f_M_suspects 69 [some (.inr (.inr ((109 : Nat) : Int))), some (.inl x1), some (.inl x2), some (.inl x3), some (.inl x4), some (.inl x5), some (.inl 0), none, none] [] h Q))) : am_R (am_prog scr) (d + 1) f_M_suspects 60 [some (.inr (.inr ((109 : Nat) : Int))), some (.inl x1), some (.inl x2), some (.inl x3), some (.inl x4), some (.inl x5), none, none, none] [] h Q := by
  have hp : ∀ k, (am_prog scr).1 f_M_suspects k = c_M_suspects k := fun _ => rfl
  refine am_R.next ((hp 60).trans rfl) rfl ?_
  refine am_R.next ((hp 62).trans rfl) rfl ?_
  refine r_ic ((hp 63).trans rfl) (fun c1 => ?_) (fun c1 => ?_)
  · have H := H.1 c1
    refine am_R.next ((hp 188).trans rfl) rfl ?_
    refine am_R.next (lv' := [some (.inr (.inr ((109 : Nat) : Int))), some (.inl x1), some (.inl x2), some (.inl x3), some (.inl x4), some (.inl 0), none, none, none]) ((hp 189).trans rfl) rfl ?_
    exact H
  · have H := H.2 c1
    refine am_R.next ((hp 66).trans rfl) rfl ?_
    refine am_R.next (lv' := [some (.inr (.inr ((109 : Nat) : Int))), some (.inl x1), some (.inl x2), some (.inl x3), some (.inl x4), some (.inl x5), some (.inl 0), none, none]) ((hp 67).trans rfl) rfl ?_
    exact H
theorem w_M_suspects_69 {scr : Nat × (Nat → Int)} {d : Nat} {h : am_H} {Q : Option am_V → am_H → Prop} {x1 x2 x3 x4 x5 x6 : Int} (hs : am_sc scr) (hw : wf h) (H : (¬ (x6 < (h.2.2.2 109 29)) → (am_R (am_prog scr) d f_M_isThen 0 [some (.inr (.inr ((109 : Nat) : Int))), none] [] h (fun v g1 => v = none ∧ wf g1 ∧ (∀ y2 : Int, y2 = am_w (x5 + 1) → (am_R (am_prog scr) (d + 1) f_M_suspects 60 [some (.inr (.inr ((109 : Nat) : Int))), some (.inl x1), some (.inl x2), some (.inl x3), some (.inl x4), some (.inl y2), none, none, none] [] g1 Q))))) ∧ (x6 < (h.2.2.2 109 29) → (am_R (am_prog scr) (d + 1) f_M_suspects 81 [some (.inr (.inr ((109 : Nat) : Int))), some (.inl x1), some (.inl x2), some (.inl x3), some (.inl x4), some (.inl x5), some (.inl x6), some (.inl 0), none] [] h Q))) : am_R (am_prog scr) (d + 1) f_M_suspects 69 [some (.inr (.inr ((109 : Nat) : Int))), some (.inl x1), some (.inl x2), some (.inl x3), some (.inl x4), some (.inl x5), some (.inl x6), none, none] [] h Q := by
  have hp : ∀ k, (am_prog scr).1 f_M_suspects k = c_M_suspects k := fun _ => rfl
  refine am_R.next ((hp 69).trans rfl) rfl ?_
  refine am_R.next ((hp 71).trans rfl) rfl ?_
  refine r_getI ((hp 72).trans rfl) (hw.o (i := 109) (by decide) rfl) ?_
  refine r_ic ((hp 75).trans rfl) (fun c3 => ?_) (fun c3 => ?_)
  · have H := H.1 c3
    refine am_R.next ((hp 178).trans rfl) rfl ?_
    refine r_cv (bs := []) (st' := []) ((hp 179).trans rfl) (hw.o (i := 109) (by decide) rfl) rfl rfl (Nat.le_of_ble_eq_true rfl) (Nat.le_of_ble_eq_true rfl) (am_R.post H (fun v g1 hq => ?_))
    obtain ⟨rfl, hw, H⟩ := hq
    change am_R _ _ _ _ _ [] _ _
    obtain ⟨y2, ey2⟩ : ∃ z : Int, z = am_w (x5 + 1) := ⟨_, rfl⟩
    have H := H y2 ey2
    refine am_R.next (lv' := [some (.inr (.inr ((109 : Nat) : Int))), some (.inl x1), some (.inl x2), some (.inl x3), some (.inl x4), some (.inl y2), some (.inl x6), none, none]) (st' := []) (h' := g1) (pc' := 185) ((hp 182).trans rfl) (by rw [ey2]; rfl) ?_
    refine am_R.next ((hp 185).trans rfl) rfl ?_
    exact r_le hs in_105 (le_k (le_k (le_k (le_k (le_k (le_k (le_d (le_k (le_k le_n))))))))) H
  · have H := H.2 (Decidable.not_not.mp c3)
    refine am_R.next ((hp 78).trans rfl) rfl ?_
    refine am_R.next (lv' := [some (.inr (.inr ((109 : Nat) : Int))), some (.inl x1), some (.inl x2), some (.inl x3), some (.inl x4), some (.inl x5), some (.inl x6), some (.inl 0), none]) ((hp 79).trans rfl) rfl ?_
    exact H
theorem w_M_suspects_81 {scr : Nat × (Nat → Int)} {d : Nat} {h : am_H} {Q : Option am_V → am_H → Prop} {x1 x2 x3 x4 x5 x6 x7 : Int} (hs : am_sc scr) (hw : wf h) (H : (¬ (x7 < 7) → (∀ y1 : Int, y1 = am_w (x6 + 1) → (am_R (am_prog scr) (d + 1) f_M_suspects 69 [some (.inr (.inr ((109 : Nat) : Int))), some (.inl x1), some (.inl x2), some (.inl x3), some (.inl x4), some (.inl x5), some (.inl y1), none, none] [] h Q))) ∧ (x7 < 7 → ((0 ≤ x6 ∧ x6 < 360) ∧ ((0 ≤ (h.2.2.2 119 x6.toNat) ∧ (h.2.2.2 119 x6.toNat) < 360) ∧ ((¬ (0 < (h.2.2.2 124 ((h.2.2.2 119 x6.toNat).toNat))) → (∀ y4 : Int, y4 = am_w (x6 + 1) → (am_R (am_prog scr) (d + 1) f_M_suspects 69 [some (.inr (.inr ((109 : Nat) : Int))), some (.inl x1), some (.inl x2), some (.inl x3), some (.inl x4), some (.inl x5), some (.inl y4), none, none] [] h Q))) ∧ (0 < (h.2.2.2 124 ((h.2.2.2 119 x6.toNat).toNat)) → ((0 ≤ x6 ∧ x6 < 360) ∧ ((0 ≤ (am_w ((am_w (7 * (h.2.2.2 119 x6.toNat))) + x7)) ∧ (am_w ((am_w (7 * (h.2.2.2 119 x6.toNat))) + x7)) < 2520) ∧ (∀ y7 : Int, y7 = h.2.2.2 120 ((am_w ((am_w (7 * (h.2.2.2 119 x6.toNat))) + x7)).toNat) → (am_R (am_prog scr) d f_M_isHeard 0 [some (.inr (.inr ((109 : Nat) : Int))), some (.inl x1), some (.inl x5), some (.inl y7)] [] h (fun v g8 => ∃ r9 : Int, v = some (.inl r9) ∧ wf g8 ∧ ((r9 = 0 → (∀ y10 : Int, y10 = am_w (x7 + 1) → (am_R (am_prog scr) (d + 1) f_M_suspects 81 [some (.inr (.inr ((109 : Nat) : Int))), some (.inl x1), some (.inl x2), some (.inl x3), some (.inl x4), some (.inl x5), some (.inl x6), some (.inl y10), none] [] g8 Q))) ∧ (¬ (r9 = 0) → ((0 ≤ (am_w ((am_w (360 * (am_w (x5 + 1)))) + y7)) ∧ (am_w ((am_w (360 * (am_w (x5 + 1)))) + y7)) < 3240) ∧ ((¬ (0 < (g8.2.2.2 128 ((am_w ((am_w (360 * (am_w (x5 + 1)))) + y7)).toNat))) → (∀ y12 : Int, y12 = am_w (x7 + 1) → (am_R (am_prog scr) (d + 1) f_M_suspects 81 [some (.inr (.inr ((109 : Nat) : Int))), some (.inl x1), some (.inl x2), some (.inl x3), some (.inl x4), some (.inl x5), some (.inl x6), some (.inl y12), none] [] g8 Q))) ∧ (0 < (g8.2.2.2 128 ((am_w ((am_w (360 * (am_w (x5 + 1)))) + y7)).toNat)) → (((0 ≤ y7 ∧ y7 < 360)) ∧ (∀ h14 : am_H, h14 = am_put g8 125 y7.toNat 1 → (∀ y15 : Int, y15 = am_w (x7 + 1) → (am_R (am_prog scr) (d + 1) f_M_suspects 81 [some (.inr (.inr ((109 : Nat) : Int))), some (.inl x1), some (.inl x2), some (.inl x3), some (.inl x4), some (.inl x5), some (.inl x6), some (.inl y15), none] [] h14 Q)))))))))))))))))))) : am_R (am_prog scr) (d + 1) f_M_suspects 81 [some (.inr (.inr ((109 : Nat) : Int))), some (.inl x1), some (.inl x2), some (.inl x3), some (.inl x4), some (.inl x5), some (.inl x6), some (.inl x7), none] [] h Q := by
  have hp : ∀ k, (am_prog scr).1 f_M_suspects k = c_M_suspects k := fun _ => rfl
  refine am_R.next ((hp 81).trans rfl) rfl ?_
  refine am_R.next ((hp 83).trans rfl) rfl ?_
  refine r_ic ((hp 85).trans rfl) (fun c19 => ?_) (fun c19 => ?_)
  · have H := H.1 c19
    obtain ⟨y1, ey1⟩ : ∃ z : Int, z = am_w (x6 + 1) := ⟨_, rfl⟩
    have H := H y1 ey1
    refine am_R.next (lv' := [some (.inr (.inr ((109 : Nat) : Int))), some (.inl x1), some (.inl x2), some (.inl x3), some (.inl x4), some (.inl x5), some (.inl y1), some (.inl x7), none]) (st' := []) (h' := h) (pc' := 175) ((hp 172).trans rfl) (by rw [ey1]; rfl) ?_
    refine am_R.next ((hp 175).trans rfl) rfl ?_
    exact r_le hs in_105 (le_k (le_k (le_k (le_k (le_k (le_k (le_k (le_d (le_k le_n))))))))) H
  · have H := H.2 (Decidable.not_not.mp c19)
    refine am_R.next ((hp 88).trans rfl) rfl ?_
    refine r_getR ((hp 89).trans rfl) (hw.o (i := 109) (by decide) rfl) (hw.r wr_109_30) ?_
    refine am_R.next ((hp 92).trans rfl) rfl ?_
    refine r_getR ((hp 93).trans rfl) (hw.o (i := 109) (by decide) rfl) (hw.r wr_109_24) ?_
    refine am_R.next ((hp 96).trans rfl) rfl ?_
    obtain ⟨c2, H⟩ := H
    refine r_iald ((hp 98).trans rfl) (hw.a (i := 119) (by decide) rfl c2.1 c2.2) ?_
    obtain ⟨c3, H⟩ := H
    refine r_lald ((hp 99).trans rfl) (hw.a (i := 124) (by decide) rfl c3.1 c3.2) ?_
    refine am_R.next ((hp 100).trans rfl) rfl ?_
    refine am_R.next ((hp 101).trans rfl) rfl ?_
    refine r_if ((hp 102).trans rfl) (fun c18 => ?_) (fun c18 => ?_)
    · have H := H.1 (lc_let c18)
      obtain ⟨y4, ey4⟩ : ∃ z : Int, z = am_w (x6 + 1) := ⟨_, rfl⟩
      have H := H y4 ey4
      refine am_R.next (lv' := [some (.inr (.inr ((109 : Nat) : Int))), some (.inl x1), some (.inl x2), some (.inl x3), some (.inl x4), some (.inl x5), some (.inl y4), some (.inl x7), none]) (st' := []) (h' := h) (pc' := 175) ((hp 172).trans rfl) (by rw [ey4]; rfl) ?_
      refine am_R.next ((hp 175).trans rfl) rfl ?_
      exact r_le hs in_105 (le_k (le_k (le_k (le_k (le_k (le_k (le_k (le_d (le_k le_n))))))))) H
    · have H := H.2 (lc_lef c18)
      refine am_R.next ((hp 105).trans rfl) rfl ?_
      refine r_getR ((hp 106).trans rfl) (hw.o (i := 109) (by decide) rfl) (hw.r wr_109_25) ?_
      refine am_R.next ((hp 109).trans rfl) rfl ?_
      refine am_R.next ((hp 111).trans rfl) rfl ?_
      refine r_getR ((hp 112).trans rfl) (hw.o (i := 109) (by decide) rfl) (hw.r wr_109_24) ?_
      refine am_R.next ((hp 115).trans rfl) rfl ?_
      obtain ⟨c5, H⟩ := H
      refine r_iald ((hp 117).trans rfl) (hw.a (i := 119) (by decide) rfl c5.1 c5.2) ?_
      refine am_R.next ((hp 118).trans rfl) rfl ?_
      refine am_R.next ((hp 119).trans rfl) rfl ?_
      refine am_R.next ((hp 121).trans rfl) rfl ?_
      obtain ⟨c6, H⟩ := H
      refine r_iald ((hp 122).trans rfl) (hw.a (i := 120) (by decide) rfl c6.1 c6.2) ?_
      obtain ⟨y7, ey7⟩ : ∃ z : Int, z = h.2.2.2 120 ((am_w ((am_w (7 * (h.2.2.2 119 x6.toNat))) + x7)).toNat) := ⟨_, rfl⟩
      have H := H y7 ey7
      refine am_R.next (lv' := [some (.inr (.inr ((109 : Nat) : Int))), some (.inl x1), some (.inl x2), some (.inl x3), some (.inl x4), some (.inl x5), some (.inl x6), some (.inl x7), some (.inl y7)]) (st' := []) (h' := h) (pc' := 125) ((hp 123).trans rfl) (by rw [ey7]; rfl) ?_
      refine am_R.next ((hp 125).trans rfl) rfl ?_
      refine am_R.next ((hp 126).trans rfl) rfl ?_
      refine am_R.next ((hp 127).trans rfl) rfl ?_
      refine am_R.next ((hp 129).trans rfl) rfl ?_
      refine r_cv (bs := [.inl x1, .inl x5, .inl y7]) (st' := []) ((hp 131).trans rfl) (hw.o (i := 109) (by decide) rfl) rfl rfl (Nat.le_of_ble_eq_true rfl) (Nat.le_of_ble_eq_true rfl) (am_R.post H (fun v g8 hq => ?_))
      obtain ⟨r9, rfl, hw, H⟩ := hq
      change am_R _ _ _ _ _ [.inl r9] _ _
      refine r_if ((hp 134).trans rfl) (fun c17 => ?_) (fun c17 => ?_)
      · have H := H.1 c17
        obtain ⟨y10, ey10⟩ : ∃ z : Int, z = am_w (x7 + 1) := ⟨_, rfl⟩
        have H := H y10 ey10
        refine am_R.next (lv' := [some (.inr (.inr ((109 : Nat) : Int))), some (.inl x1), some (.inl x2), some (.inl x3), some (.inl x4), some (.inl x5), some (.inl x6), some (.inl y10), some (.inl y7)]) (st' := []) (h' := g8) (pc' := 169) ((hp 166).trans rfl) (by rw [ey10]; rfl) ?_
        refine am_R.next ((hp 169).trans rfl) rfl ?_
        exact r_le hs in_105 (le_k (le_k (le_k (le_k (le_k (le_k (le_k (le_k (le_d le_n))))))))) H
      · have H := H.2 c17
        refine am_R.next ((hp 137).trans rfl) rfl ?_
        refine r_getR ((hp 138).trans rfl) (hw.o (i := 109) (by decide) rfl) (hw.r wr_109_35) ?_
        refine am_R.next ((hp 141).trans rfl) rfl ?_
        refine am_R.next ((hp 144).trans rfl) rfl ?_
        refine am_R.next ((hp 146).trans rfl) rfl ?_
        refine am_R.next ((hp 147).trans rfl) rfl ?_
        refine am_R.next ((hp 148).trans rfl) rfl ?_
        refine am_R.next ((hp 149).trans rfl) rfl ?_
        refine am_R.next ((hp 151).trans rfl) rfl ?_
        obtain ⟨c11, H⟩ := H
        refine r_lald ((hp 152).trans rfl) (hw.a (i := 128) (by decide) rfl c11.1 c11.2) ?_
        refine am_R.next ((hp 153).trans rfl) rfl ?_
        refine am_R.next ((hp 154).trans rfl) rfl ?_
        refine r_if ((hp 155).trans rfl) (fun c16 => ?_) (fun c16 => ?_)
        · have H := H.1 (lc_let c16)
          obtain ⟨y12, ey12⟩ : ∃ z : Int, z = am_w (x7 + 1) := ⟨_, rfl⟩
          have H := H y12 ey12
          refine am_R.next (lv' := [some (.inr (.inr ((109 : Nat) : Int))), some (.inl x1), some (.inl x2), some (.inl x3), some (.inl x4), some (.inl x5), some (.inl x6), some (.inl y12), some (.inl y7)]) (st' := []) (h' := g8) (pc' := 169) ((hp 166).trans rfl) (by rw [ey12]; rfl) ?_
          refine am_R.next ((hp 169).trans rfl) rfl ?_
          exact r_le hs in_105 (le_k (le_k (le_k (le_k (le_k (le_k (le_k (le_k (le_d le_n))))))))) H
        · have H := H.2 (lc_lef c16)
          refine am_R.next ((hp 158).trans rfl) rfl ?_
          refine r_getR ((hp 159).trans rfl) (hw.o (i := 109) (by decide) rfl) (hw.r wr_109_31) ?_
          refine am_R.next ((hp 162).trans rfl) rfl ?_
          refine am_R.next ((hp 164).trans rfl) rfl ?_
          obtain ⟨c13, H⟩ := H
          obtain ⟨h14, eh14⟩ : ∃ z : am_H, z = am_put g8 125 y7.toNat 1 := ⟨_, rfl⟩
          have H := H h14 eh14
          refine r_last ((hp 165).trans rfl) (hw.a (i := 125) (by decide) rfl c13.1 c13.2) ?_
          have hw : wf h14 := by rw [eh14]; exact hw.pa na_125
          change am_R _ _ _ _ _ _ (am_put g8 125 y7.toNat 1) _
          rw [← eh14]
          obtain ⟨y15, ey15⟩ : ∃ z : Int, z = am_w (x7 + 1) := ⟨_, rfl⟩
          have H := H y15 ey15
          refine am_R.next (lv' := [some (.inr (.inr ((109 : Nat) : Int))), some (.inl x1), some (.inl x2), some (.inl x3), some (.inl x4), some (.inl x5), some (.inl x6), some (.inl y15), some (.inl y7)]) (st' := []) (h' := h14) (pc' := 169) ((hp 166).trans rfl) (by rw [ey15]; rfl) ?_
          refine am_R.next ((hp 169).trans rfl) rfl ?_
          exact r_le hs in_105 (le_k (le_k (le_k (le_k (le_k (le_k (le_k (le_k (le_d le_n))))))))) H
theorem w_M_suspects_191 {scr : Nat × (Nat → Int)} {d : Nat} {h : am_H} {Q : Option am_V → am_H → Prop} {x1 x2 x3 x4 x5 : Int} (hs : am_sc scr) (hw : wf h) (H : (¬ (x5 < 360) → (Q (some (.inl x4)) h)) ∧ (x5 < 360 → ((0 ≤ x5 ∧ x5 < 360) ∧ ((¬ (0 < (h.2.2.2 124 x5.toNat)) → (∀ y2 : Int, y2 = am_or x4 0 → (∀ y3 : Int, y3 = am_w (x5 + 1) → (am_R (am_prog scr) (d + 1) f_M_suspects 191 [some (.inr (.inr ((109 : Nat) : Int))), some (.inl x1), some (.inl x2), some (.inl x3), some (.inl y2), some (.inl y3), none, none, none] [] h Q)))) ∧ (0 < (h.2.2.2 124 x5.toNat) → (am_R (am_prog scr) d f_M_lastIn 0 [some (.inl x5)] [] h (fun v g4 => ∃ r5 : Int, v = some (.inl r5) ∧ wf g4 ∧ (∀ y6 : Int, y6 = am_or x4 (am_shl 1 r5) → (∀ y7 : Int, y7 = am_w (x5 + 1) → (am_R (am_prog scr) (d + 1) f_M_suspects 191 [some (.inr (.inr ((109 : Nat) : Int))), some (.inl x1), some (.inl x2), some (.inl x3), some (.inl y6), some (.inl y7), none, none, none] [] g4 Q)))))))))) : am_R (am_prog scr) (d + 1) f_M_suspects 191 [some (.inr (.inr ((109 : Nat) : Int))), some (.inl x1), some (.inl x2), some (.inl x3), some (.inl x4), some (.inl x5), none, none, none] [] h Q := by
  have hp : ∀ k, (am_prog scr).1 f_M_suspects k = c_M_suspects k := fun _ => rfl
  refine am_R.next ((hp 191).trans rfl) rfl ?_
  refine am_R.next ((hp 193).trans rfl) rfl ?_
  refine r_ic ((hp 196).trans rfl) (fun c9 => ?_) (fun c9 => ?_)
  · have H := H.1 c9
    refine am_R.next ((hp 233).trans rfl) rfl ?_
    exact am_R.ret ((hp 235).trans rfl) rfl H
  · have H := H.2 (Decidable.not_not.mp c9)
    refine am_R.next ((hp 199).trans rfl) rfl ?_
    refine am_R.next ((hp 201).trans rfl) rfl ?_
    refine r_getR ((hp 202).trans rfl) (hw.o (i := 109) (by decide) rfl) (hw.r wr_109_30) ?_
    refine am_R.next ((hp 205).trans rfl) rfl ?_
    obtain ⟨c1, H⟩ := H
    refine r_lald ((hp 207).trans rfl) (hw.a (i := 124) (by decide) rfl c1.1 c1.2) ?_
    refine am_R.next ((hp 208).trans rfl) rfl ?_
    refine am_R.next ((hp 209).trans rfl) rfl ?_
    refine r_if ((hp 210).trans rfl) (fun c8 => ?_) (fun c8 => ?_)
    · have H := H.1 (lc_let c8)
      refine am_R.next ((hp 223).trans rfl) rfl ?_
      refine am_R.next ((hp 224).trans rfl) rfl ?_
      obtain ⟨y2, ey2⟩ : ∃ z : Int, z = am_or x4 0 := ⟨_, rfl⟩
      have H := H y2 ey2
      refine am_R.next (lv' := [some (.inr (.inr ((109 : Nat) : Int))), some (.inl x1), some (.inl x2), some (.inl x3), some (.inl y2), some (.inl x5), none, none, none]) (st' := []) (h' := h) (pc' := 227) ((hp 225).trans rfl) (by rw [ey2]; rfl) ?_
      obtain ⟨y3, ey3⟩ : ∃ z : Int, z = am_w (x5 + 1) := ⟨_, rfl⟩
      have H := H y3 ey3
      refine am_R.next (lv' := [some (.inr (.inr ((109 : Nat) : Int))), some (.inl x1), some (.inl x2), some (.inl x3), some (.inl y2), some (.inl y3), none, none, none]) (st' := []) (h' := h) (pc' := 230) ((hp 227).trans rfl) (by rw [ey3]; rfl) ?_
      refine am_R.next ((hp 230).trans rfl) rfl ?_
      exact H
    · have H := H.2 (lc_lef c8)
      refine am_R.next ((hp 213).trans rfl) rfl ?_
      refine am_R.next ((hp 214).trans rfl) rfl ?_
      refine r_cs (as := [.inl x5]) (st' := [.inl 1, .inl x4]) ((hp 216).trans rfl) rfl rfl (Nat.le_of_ble_eq_true rfl) (Nat.le_of_ble_eq_true rfl) (am_R.post H (fun v g4 hq => ?_))
      obtain ⟨r5, rfl, hw, H⟩ := hq
      change am_R _ _ _ _ _ [.inl r5, .inl 1, .inl x4] _ _
      refine am_R.next ((hp 219).trans rfl) rfl ?_
      refine am_R.next ((hp 220).trans rfl) rfl ?_
      refine am_R.next ((hp 224).trans rfl) rfl ?_
      obtain ⟨y6, ey6⟩ : ∃ z : Int, z = am_or x4 (am_shl 1 r5) := ⟨_, rfl⟩
      have H := H y6 ey6
      refine am_R.next (lv' := [some (.inr (.inr ((109 : Nat) : Int))), some (.inl x1), some (.inl x2), some (.inl x3), some (.inl y6), some (.inl x5), none, none, none]) (st' := []) (h' := g4) (pc' := 227) ((hp 225).trans rfl) (by rw [ey6]; rfl) ?_
      obtain ⟨y7, ey7⟩ : ∃ z : Int, z = am_w (x5 + 1) := ⟨_, rfl⟩
      have H := H y7 ey7
      refine am_R.next (lv' := [some (.inr (.inr ((109 : Nat) : Int))), some (.inl x1), some (.inl x2), some (.inl x3), some (.inl y6), some (.inl y7), none, none, none]) (st' := []) (h' := g4) (pc' := 230) ((hp 227).trans rfl) (by rw [ey7]; rfl) ?_
      refine am_R.next ((hp 230).trans rfl) rfl ?_
      exact H
theorem w_M_noSaid_0 {scr : Nat × (Nat → Int)} {d : Nat} {h : am_H} {Q : Option am_V → am_H → Prop} {x1 : Int} (hs : am_sc scr) (hw : wf h) (H : am_R (am_prog scr) d f_M_noTray 0 [some (.inr (.inr ((109 : Nat) : Int))), some (.inl x1)] [] h (fun v g1 => ∃ r2 : Int, v = some (.inl r2) ∧ wf g1 ∧ ((r2 = 0 → ((0 ≤ x1 ∧ x1 < 4) ∧ (am_R (am_prog scr) d f_M_within 0 [some (.inr (.inl (g1.2.2.2 131 x1.toNat))), none, some (.inr (.inl 1)), none, some (.inr (.inl 8)), none] [] g1 (fun v g4 => ∃ r5 : Int, v = some (.inl r5) ∧ wf g4 ∧ ((¬ (r5 = 0) → (am_R (am_prog scr) (d + 1) f_M_noSaid 34 [some (.inr (.inr ((109 : Nat) : Int))), some (.inl x1), some (.inl r2), some (.inl 0)] [] g4 Q)) ∧ (r5 = 0 → (Q (some (.inl (-4))) g4))))))) ∧ (¬ (r2 = 0) → (Q (some (.inl r2)) g1))))) : am_R (am_prog scr) (d + 1) f_M_noSaid 0 [some (.inr (.inr ((109 : Nat) : Int))), some (.inl x1), none, none] [] h Q := by
  have hp : ∀ k, (am_prog scr).1 f_M_noSaid k = c_M_noSaid k := fun _ => rfl
  refine am_R.next ((hp 0).trans rfl) rfl ?_
  refine am_R.next ((hp 1).trans rfl) rfl ?_
  refine r_cv (bs := [.inl x1]) (st' := []) ((hp 2).trans rfl) (hw.o (i := 109) (by decide) rfl) rfl rfl (Nat.le_of_ble_eq_true rfl) (Nat.le_of_ble_eq_true rfl) (am_R.post H (fun v g1 hq => ?_))
  obtain ⟨r2, rfl, hw, H⟩ := hq
  change am_R _ _ _ _ _ [.inl r2] _ _
  refine am_R.next (lv' := [some (.inr (.inr ((109 : Nat) : Int))), some (.inl x1), some (.inl r2), none]) ((hp 5).trans rfl) rfl ?_
  refine am_R.next ((hp 6).trans rfl) rfl ?_
  refine r_if ((hp 7).trans rfl) (fun c7 => ?_) (fun c7 => ?_)
  · have H := H.1 c7
    refine am_R.next ((hp 12).trans rfl) rfl ?_
    refine r_getR ((hp 13).trans rfl) (hw.o (i := 109) (by decide) rfl) (hw.r wr_109_38) ?_
    refine am_R.next ((hp 16).trans rfl) rfl ?_
    obtain ⟨c3, H⟩ := H
    refine r_iald ((hp 17).trans rfl) (hw.a (i := 131) (by decide) rfl c3.1 c3.2) ?_
    refine am_R.next ((hp 18).trans rfl) rfl ?_
    refine am_R.next ((hp 19).trans rfl) rfl ?_
    refine am_R.next ((hp 20).trans rfl) rfl ?_
    refine r_cs (as := [.inr (.inl (g1.2.2.2 131 x1.toNat)), .inr (.inl 1), .inr (.inl 8)]) (st' := []) ((hp 23).trans rfl) rfl rfl (Nat.le_of_ble_eq_true rfl) (Nat.le_of_ble_eq_true rfl) (am_R.post H (fun v g4 hq => ?_))
    obtain ⟨r5, rfl, hw, H⟩ := hq
    change am_R _ _ _ _ _ [.inl r5] _ _
    refine r_if ((hp 26).trans rfl) (fun c6 => ?_) (fun c6 => ?_)
    · have H := H.1 c6
      refine am_R.next ((hp 32).trans rfl) rfl ?_
      refine am_R.next (lv' := [some (.inr (.inr ((109 : Nat) : Int))), some (.inl x1), some (.inl r2), some (.inl 0)]) ((hp 33).trans rfl) rfl ?_
      exact H
    · have H := H.2 (Decidable.not_not.mp c6)
      refine am_R.next ((hp 29).trans rfl) rfl ?_
      exact am_R.ret ((hp 31).trans rfl) rfl H
  · have H := H.2 c7
    refine am_R.next ((hp 10).trans rfl) rfl ?_
    exact am_R.ret ((hp 11).trans rfl) rfl H
theorem w_M_noSaid_34 {scr : Nat × (Nat → Int)} {d : Nat} {h : am_H} {Q : Option am_V → am_H → Prop} {x1 x2 x3 : Int} (hs : am_sc scr) (hw : wf h) (H : (0 ≤ x1 ∧ x1 < 4) ∧ ((¬ (x3 < (h.2.2.2 131 x1.toNat)) → (Q (some (.inl 0)) h)) ∧ (x3 < (h.2.2.2 131 x1.toNat) → ((0 ≤ (am_w ((am_w (40 * x1)) + x3)) ∧ (am_w ((am_w (40 * x1)) + x3)) < 160) ∧ (am_R (am_prog scr) d f_M_isSleeper 0 [some (.inr (.inr ((109 : Nat) : Int))), some (.inr (.inl (h.2.2.2 132 ((am_w ((am_w (40 * x1)) + x3)).toNat)))), none] [] h (fun v g3 => ∃ r4 : Int, v = some (.inl r4) ∧ wf g3 ∧ ((¬ (r4 = 0) → (∀ y5 : Int, y5 = am_w (x3 + 1) → (am_R (am_prog scr) (d + 1) f_M_noSaid 34 [some (.inr (.inr ((109 : Nat) : Int))), some (.inl x1), some (.inl x2), some (.inl y5)] [] g3 Q))) ∧ (r4 = 0 → (Q (some (.inl (-3))) g3))))))))) : am_R (am_prog scr) (d + 1) f_M_noSaid 34 [some (.inr (.inr ((109 : Nat) : Int))), some (.inl x1), some (.inl x2), some (.inl x3)] [] h Q := by
  have hp : ∀ k, (am_prog scr).1 f_M_noSaid k = c_M_noSaid k := fun _ => rfl
  refine am_R.next ((hp 34).trans rfl) rfl ?_
  refine am_R.next ((hp 35).trans rfl) rfl ?_
  refine r_getR ((hp 36).trans rfl) (hw.o (i := 109) (by decide) rfl) (hw.r wr_109_38) ?_
  refine am_R.next ((hp 39).trans rfl) rfl ?_
  obtain ⟨c1, H⟩ := H
  refine r_iald ((hp 40).trans rfl) (hw.a (i := 131) (by decide) rfl c1.1 c1.2) ?_
  refine r_ic ((hp 41).trans rfl) (fun c7 => ?_) (fun c7 => ?_)
  · have H := H.1 c7
    refine am_R.next ((hp 71).trans rfl) rfl ?_
    exact am_R.ret ((hp 72).trans rfl) rfl H
  · have H := H.2 (Decidable.not_not.mp c7)
    refine am_R.next ((hp 44).trans rfl) rfl ?_
    refine am_R.next ((hp 45).trans rfl) rfl ?_
    refine r_getR ((hp 46).trans rfl) (hw.o (i := 109) (by decide) rfl) (hw.r wr_109_39) ?_
    refine am_R.next ((hp 49).trans rfl) rfl ?_
    refine am_R.next ((hp 51).trans rfl) rfl ?_
    refine am_R.next ((hp 52).trans rfl) rfl ?_
    refine am_R.next ((hp 53).trans rfl) rfl ?_
    refine am_R.next ((hp 54).trans rfl) rfl ?_
    obtain ⟨c2, H⟩ := H
    refine r_lald ((hp 55).trans rfl) (hw.a (i := 132) (by decide) rfl c2.1 c2.2) ?_
    refine r_cv (bs := [.inr (.inl (h.2.2.2 132 ((am_w ((am_w (40 * x1)) + x3)).toNat)))]) (st' := []) ((hp 56).trans rfl) (hw.o (i := 109) (by decide) rfl) rfl rfl (Nat.le_of_ble_eq_true rfl) (Nat.le_of_ble_eq_true rfl) (am_R.post H (fun v g3 hq => ?_))
    obtain ⟨r4, rfl, hw, H⟩ := hq
    change am_R _ _ _ _ _ [.inl r4] _ _
    refine r_if ((hp 59).trans rfl) (fun c6 => ?_) (fun c6 => ?_)
    · have H := H.1 c6
      obtain ⟨y5, ey5⟩ : ∃ z : Int, z = am_w (x3 + 1) := ⟨_, rfl⟩
      have H := H y5 ey5
      refine am_R.next (lv' := [some (.inr (.inr ((109 : Nat) : Int))), some (.inl x1), some (.inl x2), some (.inl y5)]) (st' := []) (h' := g3) (pc' := 68) ((hp 65).trans rfl) (by rw [ey5]; rfl) ?_
      refine am_R.next ((hp 68).trans rfl) rfl ?_
      exact H
    · have H := H.2 (Decidable.not_not.mp c6)
      refine am_R.next ((hp 62).trans rfl) rfl ?_
      exact am_R.ret ((hp 64).trans rfl) rfl H
theorem w_M_isSaid_0 {scr : Nat × (Nat → Int)} {d : Nat} {h : am_H} {Q : Option am_V → am_H → Prop} {x1 x2 : Int} (hs : am_sc scr) (hw : wf h) (H : am_R (am_prog scr) d f_M_standNow 0 [some (.inr (.inr ((109 : Nat) : Int)))] [] h (fun v g1 => ∃ r2 : Int, v = some (.inl r2) ∧ wf g1 ∧ (am_R (am_prog scr) (d + 1) f_M_isSaid 8 [some (.inr (.inr ((109 : Nat) : Int))), some (.inl x1), some (.inl x2), some (.inl r2), some (.inl 0)] [] g1 Q))) : am_R (am_prog scr) (d + 1) f_M_isSaid 0 [some (.inr (.inr ((109 : Nat) : Int))), some (.inl x1), some (.inl x2), none, none] [] h Q := by
  have hp : ∀ k, (am_prog scr).1 f_M_isSaid k = c_M_isSaid k := fun _ => rfl
  refine am_R.next ((hp 0).trans rfl) rfl ?_
  refine r_cv (bs := []) (st' := []) ((hp 1).trans rfl) (hw.o (i := 109) (by decide) rfl) rfl rfl (Nat.le_of_ble_eq_true rfl) (Nat.le_of_ble_eq_true rfl) (am_R.post H (fun v g1 hq => ?_))
  obtain ⟨r2, rfl, hw, H⟩ := hq
  change am_R _ _ _ _ _ [.inl r2] _ _
  refine am_R.next (lv' := [some (.inr (.inr ((109 : Nat) : Int))), some (.inl x1), some (.inl x2), some (.inl r2), none]) ((hp 4).trans rfl) rfl ?_
  refine am_R.next ((hp 5).trans rfl) rfl ?_
  refine am_R.next (lv' := [some (.inr (.inr ((109 : Nat) : Int))), some (.inl x1), some (.inl x2), some (.inl r2), some (.inl 0)]) ((hp 6).trans rfl) rfl ?_
  exact H
theorem w_M_isSaid_8 {scr : Nat × (Nat → Int)} {d : Nat} {h : am_H} {Q : Option am_V → am_H → Prop} {x1 x2 x3 x4 : Int} (hs : am_sc scr) (hw : wf h) (H : (0 ≤ x1 ∧ x1 < 4) ∧ ((¬ (x4 < (h.2.2.2 131 x1.toNat)) → (Q (some (.inl 1)) h)) ∧ (x4 < (h.2.2.2 131 x1.toNat) → (am_R (am_prog scr) d f_M_isOver 0 [some (.inr (.inr ((109 : Nat) : Int))), some (.inl x3)] [] h (fun v g2 => ∃ r3 : Int, v = some (.inl r3) ∧ wf g2 ∧ ((r3 = 0 → (am_R (am_prog scr) d f_M_beatTo 0 [some (.inr (.inr ((109 : Nat) : Int))), some (.inl x3), some (.inl (-1)), some (.inl x2), none, none, none] [] g2 (fun v g4 => ∃ r5 : Int, v = some (.inl r5) ∧ wf g4 ∧ (((r5.tmod 2) = 1 → (Q (some (.inl 0)) g4)) ∧ (¬ ((r5.tmod 2) = 1) → (am_R (am_prog scr) d f_M_lastIn 0 [some (.inl r5)] [] g4 (fun v g6 => ∃ r7 : Int, v = some (.inl r7) ∧ wf g6 ∧ ((0 ≤ (am_w ((am_w (40 * x1)) + x4)) ∧ (am_w ((am_w (40 * x1)) + x4)) < 160) ∧ ((r7 = (g6.2.2.2 132 ((am_w ((am_w (40 * x1)) + x4)).toNat)) → (∀ y9 : Int, y9 = am_w (x4 + 1) → (am_R (am_prog scr) (d + 1) f_M_isSaid 8 [some (.inr (.inr ((109 : Nat) : Int))), some (.inl x1), some (.inl x2), some (.inl r5), some (.inl y9)] [] g6 Q))) ∧ (¬ (r7 = (g6.2.2.2 132 ((am_w ((am_w (40 * x1)) + x4)).toNat))) → (Q (some (.inl 0)) g6))))))))))) ∧ (¬ (r3 = 0) → (Q (some (.inl 0)) g2)))))))) : am_R (am_prog scr) (d + 1) f_M_isSaid 8 [some (.inr (.inr ((109 : Nat) : Int))), some (.inl x1), some (.inl x2), some (.inl x3), some (.inl x4)] [] h Q := by
  have hp : ∀ k, (am_prog scr).1 f_M_isSaid k = c_M_isSaid k := fun _ => rfl
  refine am_R.next ((hp 8).trans rfl) rfl ?_
  refine am_R.next ((hp 10).trans rfl) rfl ?_
  refine r_getR ((hp 11).trans rfl) (hw.o (i := 109) (by decide) rfl) (hw.r wr_109_38) ?_
  refine am_R.next ((hp 14).trans rfl) rfl ?_
  obtain ⟨c1, H⟩ := H
  refine r_iald ((hp 15).trans rfl) (hw.a (i := 131) (by decide) rfl c1.1 c1.2) ?_
  refine r_ic ((hp 16).trans rfl) (fun c13 => ?_) (fun c13 => ?_)
  · have H := H.1 c13
    refine am_R.next ((hp 73).trans rfl) rfl ?_
    exact r_zret ((hp 74).trans rfl) (Or.inr rfl) H
  · have H := H.2 (Decidable.not_not.mp c13)
    refine am_R.next ((hp 19).trans rfl) rfl ?_
    refine am_R.next ((hp 20).trans rfl) rfl ?_
    refine r_cv (bs := [.inl x3]) (st' := []) ((hp 21).trans rfl) (hw.o (i := 109) (by decide) rfl) rfl rfl (Nat.le_of_ble_eq_true rfl) (Nat.le_of_ble_eq_true rfl) (am_R.post H (fun v g2 hq => ?_))
    obtain ⟨r3, rfl, hw, H⟩ := hq
    change am_R _ _ _ _ _ [.inl r3] _ _
    refine r_if ((hp 24).trans rfl) (fun c12 => ?_) (fun c12 => ?_)
    · have H := H.1 c12
      refine am_R.next ((hp 29).trans rfl) rfl ?_
      refine am_R.next ((hp 30).trans rfl) rfl ?_
      refine am_R.next ((hp 31).trans rfl) rfl ?_
      refine am_R.next ((hp 32).trans rfl) rfl ?_
      refine r_cv (bs := [.inl x3, .inl (-1), .inl x2]) (st' := []) ((hp 33).trans rfl) (hw.o (i := 109) (by decide) rfl) rfl rfl (Nat.le_of_ble_eq_true rfl) (Nat.le_of_ble_eq_true rfl) (am_R.post H (fun v g4 hq => ?_))
      obtain ⟨r5, rfl, hw, H⟩ := hq
      change am_R _ _ _ _ _ [.inl r5] _ _
      refine am_R.next (lv' := [some (.inr (.inr ((109 : Nat) : Int))), some (.inl x1), some (.inl x2), some (.inl r5), some (.inl x4)]) ((hp 36).trans rfl) rfl ?_
      refine am_R.next ((hp 37).trans rfl) rfl ?_
      refine am_R.next ((hp 38).trans rfl) rfl ?_
      refine r_i2z ((hp 39).trans rfl) (by decide) ?_
      refine am_R.next ((hp 40).trans rfl) rfl ?_
      refine r_ic ((hp 41).trans rfl) (fun c11 => ?_) (fun c11 => ?_)
      · have H := H.1 c11
        refine am_R.next ((hp 65).trans rfl) rfl ?_
        exact r_zret ((hp 66).trans rfl) (Or.inl rfl) H
      · have H := H.2 c11
        refine am_R.next ((hp 44).trans rfl) rfl ?_
        refine r_cs (as := [.inl r5]) (st' := []) ((hp 45).trans rfl) rfl rfl (Nat.le_of_ble_eq_true rfl) (Nat.le_of_ble_eq_true rfl) (am_R.post H (fun v g6 hq => ?_))
        obtain ⟨r7, rfl, hw, H⟩ := hq
        change am_R _ _ _ _ _ [.inl r7] _ _
        refine am_R.next ((hp 48).trans rfl) rfl ?_
        refine am_R.next ((hp 49).trans rfl) rfl ?_
        refine r_getR ((hp 50).trans rfl) (hw.o (i := 109) (by decide) rfl) (hw.r wr_109_39) ?_
        refine am_R.next ((hp 53).trans rfl) rfl ?_
        refine am_R.next ((hp 55).trans rfl) rfl ?_
        refine am_R.next ((hp 56).trans rfl) rfl ?_
        refine am_R.next ((hp 57).trans rfl) rfl ?_
        refine am_R.next ((hp 59).trans rfl) rfl ?_
        obtain ⟨c8, H⟩ := H
        refine r_lald ((hp 60).trans rfl) (hw.a (i := 132) (by decide) rfl c8.1 c8.2) ?_
        refine am_R.next ((hp 61).trans rfl) rfl ?_
        refine r_if ((hp 62).trans rfl) (fun c10 => ?_) (fun c10 => ?_)
        · have H := H.1 (lc_eqt c10)
          obtain ⟨y9, ey9⟩ : ∃ z : Int, z = am_w (x4 + 1) := ⟨_, rfl⟩
          have H := H y9 ey9
          refine am_R.next (lv' := [some (.inr (.inr ((109 : Nat) : Int))), some (.inl x1), some (.inl x2), some (.inl r5), some (.inl y9)]) (st' := []) (h' := g6) (pc' := 70) ((hp 67).trans rfl) (by rw [ey9]; rfl) ?_
          refine am_R.next ((hp 70).trans rfl) rfl ?_
          exact H
        · have H := H.2 (lc_eqf c10)
          refine am_R.next ((hp 65).trans rfl) rfl ?_
          exact r_zret ((hp 66).trans rfl) (Or.inl rfl) H
    · have H := H.2 c12
      refine am_R.next ((hp 27).trans rfl) rfl ?_
      exact r_zret ((hp 28).trans rfl) (Or.inl rfl) H
theorem w_M_hushesOf_0 {scr : Nat × (Nat → Int)} {d : Nat} {h : am_H} {Q : Option am_V → am_H → Prop} {x1 : Int} (hs : am_sc scr) (hw : wf h) (H : am_R (am_prog scr) (d + 1) f_M_hushesOf 4 [some (.inr (.inr ((109 : Nat) : Int))), some (.inl x1), some (.inl 0), some (.inl 0)] [] h Q) : am_R (am_prog scr) (d + 1) f_M_hushesOf 0 [some (.inr (.inr ((109 : Nat) : Int))), some (.inl x1), none, none] [] h Q := by
  have hp : ∀ k, (am_prog scr).1 f_M_hushesOf k = c_M_hushesOf k := fun _ => rfl
  refine am_R.next ((hp 0).trans rfl) rfl ?_
  refine am_R.next (lv' := [some (.inr (.inr ((109 : Nat) : Int))), some (.inl x1), some (.inl 0), none]) ((hp 1).trans rfl) rfl ?_
  refine am_R.next ((hp 2).trans rfl) rfl ?_
  refine am_R.next (lv' := [some (.inr (.inr ((109 : Nat) : Int))), some (.inl x1), some (.inl 0), some (.inl 0)]) ((hp 3).trans rfl) rfl ?_
  exact H
theorem w_M_hushesOf_4 {scr : Nat × (Nat → Int)} {d : Nat} {h : am_H} {Q : Option am_V → am_H → Prop} {x1 x2 x3 : Int} (hs : am_sc scr) (hw : wf h) (H : (¬ (x3 < 10) → (Q (some (.inl x2)) h)) ∧ (x3 < 10 → (am_R (am_prog scr) d f_M_isSaid 0 [some (.inr (.inr ((109 : Nat) : Int))), some (.inl x1), some (.inl x3), none, none] [] h (fun v g1 => ∃ r2 : Int, v = some (.inl r2) ∧ wf g1 ∧ ((r2 = 0 → (∀ y3 : Int, y3 = am_or x2 0 → (∀ y4 : Int, y4 = am_w (x3 + 1) → (am_R (am_prog scr) (d + 1) f_M_hushesOf 4 [some (.inr (.inr ((109 : Nat) : Int))), some (.inl x1), some (.inl y3), some (.inl y4)] [] g1 Q)))) ∧ (¬ (r2 = 0) → (∀ y5 : Int, y5 = am_or x2 (am_shl 1 x3) → (∀ y6 : Int, y6 = am_w (x3 + 1) → (am_R (am_prog scr) (d + 1) f_M_hushesOf 4 [some (.inr (.inr ((109 : Nat) : Int))), some (.inl x1), some (.inl y5), some (.inl y6)] [] g1 Q))))))))) : am_R (am_prog scr) (d + 1) f_M_hushesOf 4 [some (.inr (.inr ((109 : Nat) : Int))), some (.inl x1), some (.inl x2), some (.inl x3)] [] h Q := by
  have hp : ∀ k, (am_prog scr).1 f_M_hushesOf k = c_M_hushesOf k := fun _ => rfl
  refine am_R.next ((hp 4).trans rfl) rfl ?_
  refine am_R.next ((hp 5).trans rfl) rfl ?_
  refine r_ic ((hp 7).trans rfl) (fun c8 => ?_) (fun c8 => ?_)
  · have H := H.1 c8
    refine am_R.next ((hp 35).trans rfl) rfl ?_
    exact am_R.ret ((hp 36).trans rfl) rfl H
  · have H := H.2 (Decidable.not_not.mp c8)
    refine am_R.next ((hp 10).trans rfl) rfl ?_
    refine am_R.next ((hp 11).trans rfl) rfl ?_
    refine am_R.next ((hp 12).trans rfl) rfl ?_
    refine am_R.next ((hp 13).trans rfl) rfl ?_
    refine r_cv (bs := [.inl x1, .inl x3]) (st' := [.inl x2]) ((hp 14).trans rfl) (hw.o (i := 109) (by decide) rfl) rfl rfl (Nat.le_of_ble_eq_true rfl) (Nat.le_of_ble_eq_true rfl) (am_R.post H (fun v g1 hq => ?_))
    obtain ⟨r2, rfl, hw, H⟩ := hq
    change am_R _ _ _ _ _ [.inl r2, .inl x2] _ _
    refine r_if ((hp 17).trans rfl) (fun c7 => ?_) (fun c7 => ?_)
    · have H := H.1 c7
      refine am_R.next ((hp 26).trans rfl) rfl ?_
      refine am_R.next ((hp 27).trans rfl) rfl ?_
      obtain ⟨y3, ey3⟩ : ∃ z : Int, z = am_or x2 0 := ⟨_, rfl⟩
      have H := H y3 ey3
      refine am_R.next (lv' := [some (.inr (.inr ((109 : Nat) : Int))), some (.inl x1), some (.inl y3), some (.inl x3)]) (st' := []) (h' := g1) (pc' := 29) ((hp 28).trans rfl) (by rw [ey3]; rfl) ?_
      obtain ⟨y4, ey4⟩ : ∃ z : Int, z = am_w (x3 + 1) := ⟨_, rfl⟩
      have H := H y4 ey4
      refine am_R.next (lv' := [some (.inr (.inr ((109 : Nat) : Int))), some (.inl x1), some (.inl y3), some (.inl y4)]) (st' := []) (h' := g1) (pc' := 32) ((hp 29).trans rfl) (by rw [ey4]; rfl) ?_
      refine am_R.next ((hp 32).trans rfl) rfl ?_
      exact H
    · have H := H.2 c7
      refine am_R.next ((hp 20).trans rfl) rfl ?_
      refine am_R.next ((hp 21).trans rfl) rfl ?_
      refine am_R.next ((hp 22).trans rfl) rfl ?_
      refine am_R.next ((hp 23).trans rfl) rfl ?_
      refine am_R.next ((hp 27).trans rfl) rfl ?_
      obtain ⟨y5, ey5⟩ : ∃ z : Int, z = am_or x2 (am_shl 1 x3) := ⟨_, rfl⟩
      have H := H y5 ey5
      refine am_R.next (lv' := [some (.inr (.inr ((109 : Nat) : Int))), some (.inl x1), some (.inl y5), some (.inl x3)]) (st' := []) (h' := g1) (pc' := 29) ((hp 28).trans rfl) (by rw [ey5]; rfl) ?_
      obtain ⟨y6, ey6⟩ : ∃ z : Int, z = am_w (x3 + 1) := ⟨_, rfl⟩
      have H := H y6 ey6
      refine am_R.next (lv' := [some (.inr (.inr ((109 : Nat) : Int))), some (.inl x1), some (.inl y5), some (.inl y6)]) (st' := []) (h' := g1) (pc' := 32) ((hp 29).trans rfl) (by rw [ey6]; rfl) ?_
      refine am_R.next ((hp 32).trans rfl) rfl ?_
      exact H
theorem w_M_hushes_0 {scr : Nat × (Nat → Int)} {d : Nat} {h : am_H} {Q : Option am_V → am_H → Prop} {x1 : Int} (hs : am_sc scr) (hw : wf h) (H : ∀ h1 : am_H, h1 = am_put h 109 0 0 → (am_R (am_prog scr) d f_M_noSaid 0 [some (.inr (.inr ((109 : Nat) : Int))), some (.inl x1), none, none] [] h1 (fun v g2 => ∃ r3 : Int, v = some (.inl r3) ∧ wf g2 ∧ ((r3 = 0 → (am_R (am_prog scr) d f_M_hushesOf 0 [some (.inr (.inr ((109 : Nat) : Int))), some (.inl x1), none, none] [] g2 (fun v g4 => ∃ r5 : Int, v = some (.inl r5) ∧ wf g4 ∧ (Q (some (.inl r5)) g4)))) ∧ (¬ (r3 = 0) → (Q (some (.inl r3)) g2)))))) : am_R (am_prog scr) (d + 1) f_M_hushes 0 [some (.inr (.inr ((109 : Nat) : Int))), some (.inl x1), none] [] h Q := by
  have hp : ∀ k, (am_prog scr).1 f_M_hushes k = c_M_hushes k := fun _ => rfl
  refine am_R.next ((hp 0).trans rfl) rfl ?_
  refine am_R.next ((hp 1).trans rfl) rfl ?_
  obtain ⟨h1, eh1⟩ : ∃ z : am_H, z = am_put h 109 0 0 := ⟨_, rfl⟩
  have H := H h1 eh1
  refine r_putI ((hp 2).trans rfl) (hw.o (i := 109) (by decide) rfl) ?_
  have hw : wf h1 := by rw [eh1]; exact hw.put np_109_0
  change am_R _ _ _ _ _ _ (am_put h 109 0 0) _
  rw [← eh1]
  refine am_R.next ((hp 5).trans rfl) rfl ?_
  refine am_R.next ((hp 6).trans rfl) rfl ?_
  refine r_cv (bs := [.inl x1]) (st' := []) ((hp 7).trans rfl) (hw.o (i := 109) (by decide) rfl) rfl rfl (Nat.le_of_ble_eq_true rfl) (Nat.le_of_ble_eq_true rfl) (am_R.post H (fun v g2 hq => ?_))
  obtain ⟨r3, rfl, hw, H⟩ := hq
  change am_R _ _ _ _ _ [.inl r3] _ _
  refine am_R.next (lv' := [some (.inr (.inr ((109 : Nat) : Int))), some (.inl x1), some (.inl r3)]) ((hp 10).trans rfl) rfl ?_
  refine am_R.next ((hp 11).trans rfl) rfl ?_
  refine r_if ((hp 12).trans rfl) (fun c6 => ?_) (fun c6 => ?_)
  · have H := H.1 c6
    refine am_R.next ((hp 19).trans rfl) rfl ?_
    refine am_R.next ((hp 20).trans rfl) rfl ?_
    refine r_cv (bs := [.inl x1]) (st' := []) ((hp 21).trans rfl) (hw.o (i := 109) (by decide) rfl) rfl rfl (Nat.le_of_ble_eq_true rfl) (Nat.le_of_ble_eq_true rfl) (am_R.post H (fun v g4 hq => ?_))
    obtain ⟨r5, rfl, hw, H⟩ := hq
    change am_R _ _ _ _ _ [.inl r5] _ _
    exact am_R.ret ((hp 24).trans rfl) rfl H
  · have H := H.2 c6
    refine am_R.next ((hp 15).trans rfl) rfl ?_
    refine am_R.next ((hp 16).trans rfl) rfl ?_
    exact am_R.ret ((hp 24).trans rfl) rfl H
theorem w_M_mostAlike_0 {scr : Nat × (Nat → Int)} {d : Nat} {h : am_H} {Q : Option am_V → am_H → Prop} {x1 x2 : Int} (hs : am_sc scr) (hw : wf h) (H : am_R (am_prog scr) (d + 1) f_M_mostAlike 5 [some (.inr (.inr ((109 : Nat) : Int))), some (.inl x1), some (.inl x2), some (.inl 0), some (.inl 0), none, none] [] h Q) : am_R (am_prog scr) (d + 1) f_M_mostAlike 0 [some (.inr (.inr ((109 : Nat) : Int))), some (.inl x1), some (.inl x2), none, none, none, none] [] h Q := by
  have hp : ∀ k, (am_prog scr).1 f_M_mostAlike k = c_M_mostAlike k := fun _ => rfl
  refine am_R.next ((hp 0).trans rfl) rfl ?_
  refine am_R.next (lv' := [some (.inr (.inr ((109 : Nat) : Int))), some (.inl x1), some (.inl x2), some (.inl 0), none, none, none]) ((hp 1).trans rfl) rfl ?_
  refine am_R.next ((hp 2).trans rfl) rfl ?_
  refine am_R.next (lv' := [some (.inr (.inr ((109 : Nat) : Int))), some (.inl x1), some (.inl x2), some (.inl 0), some (.inl 0), none, none]) ((hp 3).trans rfl) rfl ?_
  exact H
theorem w_M_mostAlike_5 {scr : Nat × (Nat → Int)} {d : Nat} {h : am_H} {Q : Option am_V → am_H → Prop} {x1 x2 x3 x4 : Int} (hs : am_sc scr) (hw : wf h) (H : (¬ (x4 < 10) → (am_R (am_prog scr) (d + 1) f_M_mostAlike 101 [some (.inr (.inr ((109 : Nat) : Int))), some (.inl x1), some (.inl x2), some (.inl x3), some (.inl 0), none, none] [] h Q)) ∧ (x4 < 10 → (am_R (am_prog scr) d f_M_standNow 0 [some (.inr (.inr ((109 : Nat) : Int)))] [] h (fun v g1 => ∃ r2 : Int, v = some (.inl r2) ∧ wf g1 ∧ (am_R (am_prog scr) d f_M_whyBeat 0 [some (.inr (.inr ((109 : Nat) : Int))), some (.inl r2), some (.inr (.inl x1)), none] [] g1 (fun v g3 => ∃ r4 : Int, v = some (.inl r4) ∧ wf g3 ∧ ((¬ (r4 = 0) → (am_R (am_prog scr) d f_M_isIn 0 [some (.inr (.inl x2)), none, some (.inl x4)] [] g3 (fun v g5 => ∃ r6 : Int, v = some (.inl r6) ∧ wf g5 ∧ ((¬ (r6 = 0) → ((¬ (((1 : Int).tmod 2) = 1) → (am_R (am_prog scr) d f_M_lastIn 0 [some (.inl 1)] [] g5 (fun v g7 => ∃ r8 : Int, v = some (.inl r8) ∧ wf g7 ∧ (am_R (am_prog scr) d f_M_soundIn 0 [some (.inl 1)] [] g7 (fun v g9 => ∃ r10 : Int, v = some (.inl r10) ∧ wf g9 ∧ (((0 ≤ x4 ∧ x4 < 10)) ∧ (∀ h12 : am_H, h12 = am_put g9 129 x4.toNat (am_w ((am_w (10 * r8)) + r10)) → (∀ y13 : Int, y13 = am_w (x4 + 1) → (am_R (am_prog scr) (d + 1) f_M_mostAlike 5 [some (.inr (.inr ((109 : Nat) : Int))), some (.inl x1), some (.inl x2), some (.inl x3), some (.inl y13), none, none] [] h12 Q))))))))) ∧ (((1 : Int).tmod 2) = 1 → (((0 ≤ x4 ∧ x4 < 10)) ∧ (∀ h15 : am_H, h15 = am_put g5 129 x4.toNat 99 → (∀ y16 : Int, y16 = am_w (x4 + 1) → (am_R (am_prog scr) (d + 1) f_M_mostAlike 5 [some (.inr (.inr ((109 : Nat) : Int))), some (.inl x1), some (.inl x2), some (.inl x3), some (.inl y16), none, none] [] h15 Q))))))) ∧ (r6 = 0 → (((0 ≤ x4 ∧ x4 < 10)) ∧ (∀ h19 : am_H, h19 = am_put g5 129 x4.toNat (-1) → (∀ y20 : Int, y20 = am_w (x4 + 1) → (am_R (am_prog scr) (d + 1) f_M_mostAlike 5 [some (.inr (.inr ((109 : Nat) : Int))), some (.inl x1), some (.inl x2), some (.inl x3), some (.inl y20), none, none] [] h19 Q))))))))) ∧ (r4 = 0 → (am_R (am_prog scr) d f_M_standNow 0 [some (.inr (.inr ((109 : Nat) : Int)))] [] g3 (fun v g22 => ∃ r23 : Int, v = some (.inl r23) ∧ wf g22 ∧ (am_R (am_prog scr) d f_M_beatTo 0 [some (.inr (.inr ((109 : Nat) : Int))), some (.inl r23), some (.inl (am_w (x1 - 1))), some (.inl x4), none, none, none] [] g22 (fun v g24 => ∃ r25 : Int, v = some (.inl r25) ∧ wf g24 ∧ (am_R (am_prog scr) d f_M_isIn 0 [some (.inr (.inl x2)), none, some (.inl x4)] [] g24 (fun v g26 => ∃ r27 : Int, v = some (.inl r27) ∧ wf g26 ∧ ((¬ (r27 = 0) → ((¬ ((r25.tmod 2) = 1) → (am_R (am_prog scr) d f_M_lastIn 0 [some (.inl r25)] [] g26 (fun v g28 => ∃ r29 : Int, v = some (.inl r29) ∧ wf g28 ∧ (am_R (am_prog scr) d f_M_soundIn 0 [some (.inl r25)] [] g28 (fun v g30 => ∃ r31 : Int, v = some (.inl r31) ∧ wf g30 ∧ (((0 ≤ x4 ∧ x4 < 10)) ∧ (∀ h33 : am_H, h33 = am_put g30 129 x4.toNat (am_w ((am_w (10 * r29)) + r31)) → (∀ y34 : Int, y34 = am_w (x4 + 1) → (am_R (am_prog scr) (d + 1) f_M_mostAlike 5 [some (.inr (.inr ((109 : Nat) : Int))), some (.inl x1), some (.inl x2), some (.inl x3), some (.inl y34), none, none] [] h33 Q))))))))) ∧ ((r25.tmod 2) = 1 → (((0 ≤ x4 ∧ x4 < 10)) ∧ (∀ h36 : am_H, h36 = am_put g26 129 x4.toNat 99 → (∀ y37 : Int, y37 = am_w (x4 + 1) → (am_R (am_prog scr) (d + 1) f_M_mostAlike 5 [some (.inr (.inr ((109 : Nat) : Int))), some (.inl x1), some (.inl x2), some (.inl x3), some (.inl y37), none, none] [] h36 Q))))))) ∧ (r27 = 0 → (((0 ≤ x4 ∧ x4 < 10)) ∧ (∀ h40 : am_H, h40 = am_put g26 129 x4.toNat (-1) → (∀ y41 : Int, y41 = am_w (x4 + 1) → (am_R (am_prog scr) (d + 1) f_M_mostAlike 5 [some (.inr (.inr ((109 : Nat) : Int))), some (.inl x1), some (.inl x2), some (.inl x3), some (.inl y41), none, none] [] h40 Q)))))))))))))))))))) : am_R (am_prog scr) (d + 1) f_M_mostAlike 5 [some (.inr (.inr ((109 : Nat) : Int))), some (.inl x1), some (.inl x2), some (.inl x3), some (.inl x4), none, none] [] h Q := by
  have hp : ∀ k, (am_prog scr).1 f_M_mostAlike k = c_M_mostAlike k := fun _ => rfl
  refine am_R.next ((hp 5).trans rfl) rfl ?_
  refine am_R.next ((hp 7).trans rfl) rfl ?_
  refine r_ic ((hp 9).trans rfl) (fun c44 => ?_) (fun c44 => ?_)
  · have H := H.1 c44
    refine am_R.next ((hp 98).trans rfl) rfl ?_
    refine am_R.next (lv' := [some (.inr (.inr ((109 : Nat) : Int))), some (.inl x1), some (.inl x2), some (.inl x3), some (.inl 0), none, none]) ((hp 99).trans rfl) rfl ?_
    exact H
  · have H := H.2 (Decidable.not_not.mp c44)
    refine am_R.next ((hp 12).trans rfl) rfl ?_
    refine am_R.next ((hp 13).trans rfl) rfl ?_
    refine r_cv (bs := []) (st' := [.inr (.inr ((109 : Nat) : Int))]) ((hp 14).trans rfl) (hw.o (i := 109) (by decide) rfl) rfl rfl (Nat.le_of_ble_eq_true rfl) (Nat.le_of_ble_eq_true rfl) (am_R.post H (fun v g1 hq => ?_))
    obtain ⟨r2, rfl, hw, H⟩ := hq
    change am_R _ _ _ _ _ [.inl r2, .inr (.inr ((109 : Nat) : Int))] _ _
    refine am_R.next ((hp 17).trans rfl) rfl ?_
    refine am_R.next ((hp 18).trans rfl) rfl ?_
    refine r_cv (bs := [.inl r2, .inr (.inl x1)]) (st' := []) ((hp 19).trans rfl) (hw.o (i := 109) (by decide) rfl) rfl rfl (Nat.le_of_ble_eq_true rfl) (Nat.le_of_ble_eq_true rfl) (am_R.post H (fun v g3 hq => ?_))
    obtain ⟨r4, rfl, hw, H⟩ := hq
    change am_R _ _ _ _ _ [.inl r4] _ _
    refine r_if ((hp 22).trans rfl) (fun c43 => ?_) (fun c43 => ?_)
    · have H := H.1 c43
      refine am_R.next ((hp 41).trans rfl) rfl ?_
      refine am_R.next (lv' := [some (.inr (.inr ((109 : Nat) : Int))), some (.inl x1), some (.inl x2), some (.inl x3), some (.inl x4), some (.inl 1), none]) ((hp 42).trans rfl) rfl ?_
      refine am_R.next ((hp 44).trans rfl) rfl ?_
      refine r_getR ((hp 45).trans rfl) (hw.o (i := 109) (by decide) rfl) (hw.r wr_109_36) ?_
      refine am_R.next ((hp 48).trans rfl) rfl ?_
      refine am_R.next ((hp 50).trans rfl) rfl ?_
      refine am_R.next ((hp 51).trans rfl) rfl ?_
      refine am_R.next ((hp 52).trans rfl) rfl ?_
      refine r_cs (as := [.inr (.inl x2), .inl x4]) (st' := [.inl x4, .inr (.inr ((129 : Nat) : Int))]) ((hp 54).trans rfl) rfl rfl (Nat.le_of_ble_eq_true rfl) (Nat.le_of_ble_eq_true rfl) (am_R.post H (fun v g5 hq => ?_))
      obtain ⟨r6, rfl, hw, H⟩ := hq
      change am_R _ _ _ _ _ [.inl r6, .inl x4, .inr (.inr ((129 : Nat) : Int))] _ _
      refine r_if ((hp 57).trans rfl) (fun c21 => ?_) (fun c21 => ?_)
      · have H := H.1 c21
        refine am_R.next ((hp 64).trans rfl) rfl ?_
        refine am_R.next ((hp 66).trans rfl) rfl ?_
        refine r_i2z ((hp 67).trans rfl) (by decide) ?_
        refine am_R.next ((hp 68).trans rfl) rfl ?_
        refine r_ic ((hp 69).trans rfl) (fun c17 => ?_) (fun c17 => ?_)
        · have H := H.1 c17
          refine am_R.next ((hp 77).trans rfl) rfl ?_
          refine am_R.next ((hp 79).trans rfl) rfl ?_
          refine r_cs (as := [.inl 1]) (st' := [.inl 10, .inl x4, .inr (.inr ((129 : Nat) : Int))]) ((hp 81).trans rfl) rfl rfl (Nat.le_of_ble_eq_true rfl) (Nat.le_of_ble_eq_true rfl) (am_R.post H (fun v g7 hq => ?_))
          obtain ⟨r8, rfl, hw, H⟩ := hq
          change am_R _ _ _ _ _ [.inl r8, .inl 10, .inl x4, .inr (.inr ((129 : Nat) : Int))] _ _
          refine am_R.next ((hp 84).trans rfl) rfl ?_
          refine am_R.next ((hp 85).trans rfl) rfl ?_
          refine r_cs (as := [.inl 1]) (st' := [.inl (am_w (10 * r8)), .inl x4, .inr (.inr ((129 : Nat) : Int))]) ((hp 87).trans rfl) rfl rfl (Nat.le_of_ble_eq_true rfl) (Nat.le_of_ble_eq_true rfl) (am_R.post H (fun v g9 hq => ?_))
          obtain ⟨r10, rfl, hw, H⟩ := hq
          change am_R _ _ _ _ _ [.inl r10, .inl (am_w (10 * r8)), .inl x4, .inr (.inr ((129 : Nat) : Int))] _ _
          refine am_R.next ((hp 90).trans rfl) rfl ?_
          obtain ⟨c11, H⟩ := H
          obtain ⟨h12, eh12⟩ : ∃ z : am_H, z = am_put g9 129 x4.toNat (am_w ((am_w (10 * r8)) + r10)) := ⟨_, rfl⟩
          have H := H h12 eh12
          refine r_iast ((hp 91).trans rfl) (hw.a (i := 129) (by decide) rfl c11.1 c11.2) ?_
          have hw : wf h12 := by rw [eh12]; exact hw.pa na_129
          change am_R _ _ _ _ _ _ (am_put g9 129 x4.toNat (am_w ((am_w (10 * r8)) + r10))) _
          rw [← eh12]
          obtain ⟨y13, ey13⟩ : ∃ z : Int, z = am_w (x4 + 1) := ⟨_, rfl⟩
          have H := H y13 ey13
          refine am_R.next (lv' := [some (.inr (.inr ((109 : Nat) : Int))), some (.inl x1), some (.inl x2), some (.inl x3), some (.inl y13), some (.inl 1), none]) (st' := []) (h' := h12) (pc' := 95) ((hp 92).trans rfl) (by rw [ey13]; rfl) ?_
          refine am_R.next ((hp 95).trans rfl) rfl ?_
          exact r_le hs in_110 (le_k (le_k (le_k (le_k (le_k (le_d (le_k le_n))))))) H
        · have H := H.2 (Decidable.not_not.mp c17)
          refine am_R.next ((hp 72).trans rfl) rfl ?_
          refine am_R.next ((hp 74).trans rfl) rfl ?_
          obtain ⟨c14, H⟩ := H
          obtain ⟨h15, eh15⟩ : ∃ z : am_H, z = am_put g5 129 x4.toNat 99 := ⟨_, rfl⟩
          have H := H h15 eh15
          refine r_iast ((hp 91).trans rfl) (hw.a (i := 129) (by decide) rfl c14.1 c14.2) ?_
          have hw : wf h15 := by rw [eh15]; exact hw.pa na_129
          change am_R _ _ _ _ _ _ (am_put g5 129 x4.toNat 99) _
          rw [← eh15]
          obtain ⟨y16, ey16⟩ : ∃ z : Int, z = am_w (x4 + 1) := ⟨_, rfl⟩
          have H := H y16 ey16
          refine am_R.next (lv' := [some (.inr (.inr ((109 : Nat) : Int))), some (.inl x1), some (.inl x2), some (.inl x3), some (.inl y16), some (.inl 1), none]) (st' := []) (h' := h15) (pc' := 95) ((hp 92).trans rfl) (by rw [ey16]; rfl) ?_
          refine am_R.next ((hp 95).trans rfl) rfl ?_
          exact r_le hs in_110 (le_k (le_k (le_k (le_k (le_k (le_d (le_k le_n))))))) H
      · have H := H.2 (Decidable.not_not.mp c21)
        refine am_R.next ((hp 60).trans rfl) rfl ?_
        refine am_R.next ((hp 61).trans rfl) rfl ?_
        obtain ⟨c18, H⟩ := H
        obtain ⟨h19, eh19⟩ : ∃ z : am_H, z = am_put g5 129 x4.toNat (-1) := ⟨_, rfl⟩
        have H := H h19 eh19
        refine r_iast ((hp 91).trans rfl) (hw.a (i := 129) (by decide) rfl c18.1 c18.2) ?_
        have hw : wf h19 := by rw [eh19]; exact hw.pa na_129
        change am_R _ _ _ _ _ _ (am_put g5 129 x4.toNat (-1)) _
        rw [← eh19]
        obtain ⟨y20, ey20⟩ : ∃ z : Int, z = am_w (x4 + 1) := ⟨_, rfl⟩
        have H := H y20 ey20
        refine am_R.next (lv' := [some (.inr (.inr ((109 : Nat) : Int))), some (.inl x1), some (.inl x2), some (.inl x3), some (.inl y20), some (.inl 1), none]) (st' := []) (h' := h19) (pc' := 95) ((hp 92).trans rfl) (by rw [ey20]; rfl) ?_
        refine am_R.next ((hp 95).trans rfl) rfl ?_
        exact r_le hs in_110 (le_k (le_k (le_k (le_k (le_k (le_d (le_k le_n))))))) H
    · have H := H.2 (Decidable.not_not.mp c43)
      refine am_R.next ((hp 25).trans rfl) rfl ?_
      refine am_R.next ((hp 26).trans rfl) rfl ?_
      refine r_cv (bs := []) (st' := [.inr (.inr ((109 : Nat) : Int))]) ((hp 27).trans rfl) (hw.o (i := 109) (by decide) rfl) rfl rfl (Nat.le_of_ble_eq_true rfl) (Nat.le_of_ble_eq_true rfl) (am_R.post H (fun v g22 hq => ?_))
      obtain ⟨r23, rfl, hw, H⟩ := hq
      change am_R _ _ _ _ _ [.inl r23, .inr (.inr ((109 : Nat) : Int))] _ _
      refine am_R.next ((hp 30).trans rfl) rfl ?_
      refine am_R.next ((hp 31).trans rfl) rfl ?_
      refine am_R.next ((hp 32).trans rfl) rfl ?_
      refine am_R.next ((hp 33).trans rfl) rfl ?_
      refine r_cv (bs := [.inl r23, .inl (am_w (x1 - 1)), .inl x4]) (st' := []) ((hp 35).trans rfl) (hw.o (i := 109) (by decide) rfl) rfl rfl (Nat.le_of_ble_eq_true rfl) (Nat.le_of_ble_eq_true rfl) (am_R.post H (fun v g24 hq => ?_))
      obtain ⟨r25, rfl, hw, H⟩ := hq
      change am_R _ _ _ _ _ [.inl r25] _ _
      refine am_R.next ((hp 38).trans rfl) rfl ?_
      refine am_R.next (lv' := [some (.inr (.inr ((109 : Nat) : Int))), some (.inl x1), some (.inl x2), some (.inl x3), some (.inl x4), some (.inl r25), none]) ((hp 42).trans rfl) rfl ?_
      refine am_R.next ((hp 44).trans rfl) rfl ?_
      refine r_getR ((hp 45).trans rfl) (hw.o (i := 109) (by decide) rfl) (hw.r wr_109_36) ?_
      refine am_R.next ((hp 48).trans rfl) rfl ?_
      refine am_R.next ((hp 50).trans rfl) rfl ?_
      refine am_R.next ((hp 51).trans rfl) rfl ?_
      refine am_R.next ((hp 52).trans rfl) rfl ?_
      refine r_cs (as := [.inr (.inl x2), .inl x4]) (st' := [.inl x4, .inr (.inr ((129 : Nat) : Int))]) ((hp 54).trans rfl) rfl rfl (Nat.le_of_ble_eq_true rfl) (Nat.le_of_ble_eq_true rfl) (am_R.post H (fun v g26 hq => ?_))
      obtain ⟨r27, rfl, hw, H⟩ := hq
      change am_R _ _ _ _ _ [.inl r27, .inl x4, .inr (.inr ((129 : Nat) : Int))] _ _
      refine r_if ((hp 57).trans rfl) (fun c42 => ?_) (fun c42 => ?_)
      · have H := H.1 c42
        refine am_R.next ((hp 64).trans rfl) rfl ?_
        refine am_R.next ((hp 66).trans rfl) rfl ?_
        refine r_i2z ((hp 67).trans rfl) (by decide) ?_
        refine am_R.next ((hp 68).trans rfl) rfl ?_
        refine r_ic ((hp 69).trans rfl) (fun c38 => ?_) (fun c38 => ?_)
        · have H := H.1 c38
          refine am_R.next ((hp 77).trans rfl) rfl ?_
          refine am_R.next ((hp 79).trans rfl) rfl ?_
          refine r_cs (as := [.inl r25]) (st' := [.inl 10, .inl x4, .inr (.inr ((129 : Nat) : Int))]) ((hp 81).trans rfl) rfl rfl (Nat.le_of_ble_eq_true rfl) (Nat.le_of_ble_eq_true rfl) (am_R.post H (fun v g28 hq => ?_))
          obtain ⟨r29, rfl, hw, H⟩ := hq
          change am_R _ _ _ _ _ [.inl r29, .inl 10, .inl x4, .inr (.inr ((129 : Nat) : Int))] _ _
          refine am_R.next ((hp 84).trans rfl) rfl ?_
          refine am_R.next ((hp 85).trans rfl) rfl ?_
          refine r_cs (as := [.inl r25]) (st' := [.inl (am_w (10 * r29)), .inl x4, .inr (.inr ((129 : Nat) : Int))]) ((hp 87).trans rfl) rfl rfl (Nat.le_of_ble_eq_true rfl) (Nat.le_of_ble_eq_true rfl) (am_R.post H (fun v g30 hq => ?_))
          obtain ⟨r31, rfl, hw, H⟩ := hq
          change am_R _ _ _ _ _ [.inl r31, .inl (am_w (10 * r29)), .inl x4, .inr (.inr ((129 : Nat) : Int))] _ _
          refine am_R.next ((hp 90).trans rfl) rfl ?_
          obtain ⟨c32, H⟩ := H
          obtain ⟨h33, eh33⟩ : ∃ z : am_H, z = am_put g30 129 x4.toNat (am_w ((am_w (10 * r29)) + r31)) := ⟨_, rfl⟩
          have H := H h33 eh33
          refine r_iast ((hp 91).trans rfl) (hw.a (i := 129) (by decide) rfl c32.1 c32.2) ?_
          have hw : wf h33 := by rw [eh33]; exact hw.pa na_129
          change am_R _ _ _ _ _ _ (am_put g30 129 x4.toNat (am_w ((am_w (10 * r29)) + r31))) _
          rw [← eh33]
          obtain ⟨y34, ey34⟩ : ∃ z : Int, z = am_w (x4 + 1) := ⟨_, rfl⟩
          have H := H y34 ey34
          refine am_R.next (lv' := [some (.inr (.inr ((109 : Nat) : Int))), some (.inl x1), some (.inl x2), some (.inl x3), some (.inl y34), some (.inl r25), none]) (st' := []) (h' := h33) (pc' := 95) ((hp 92).trans rfl) (by rw [ey34]; rfl) ?_
          refine am_R.next ((hp 95).trans rfl) rfl ?_
          exact r_le hs in_110 (le_k (le_k (le_k (le_k (le_k (le_d (le_k le_n))))))) H
        · have H := H.2 (Decidable.not_not.mp c38)
          refine am_R.next ((hp 72).trans rfl) rfl ?_
          refine am_R.next ((hp 74).trans rfl) rfl ?_
          obtain ⟨c35, H⟩ := H
          obtain ⟨h36, eh36⟩ : ∃ z : am_H, z = am_put g26 129 x4.toNat 99 := ⟨_, rfl⟩
          have H := H h36 eh36
          refine r_iast ((hp 91).trans rfl) (hw.a (i := 129) (by decide) rfl c35.1 c35.2) ?_
          have hw : wf h36 := by rw [eh36]; exact hw.pa na_129
          change am_R _ _ _ _ _ _ (am_put g26 129 x4.toNat 99) _
          rw [← eh36]
          obtain ⟨y37, ey37⟩ : ∃ z : Int, z = am_w (x4 + 1) := ⟨_, rfl⟩
          have H := H y37 ey37
          refine am_R.next (lv' := [some (.inr (.inr ((109 : Nat) : Int))), some (.inl x1), some (.inl x2), some (.inl x3), some (.inl y37), some (.inl r25), none]) (st' := []) (h' := h36) (pc' := 95) ((hp 92).trans rfl) (by rw [ey37]; rfl) ?_
          refine am_R.next ((hp 95).trans rfl) rfl ?_
          exact r_le hs in_110 (le_k (le_k (le_k (le_k (le_k (le_d (le_k le_n))))))) H
      · have H := H.2 (Decidable.not_not.mp c42)
        refine am_R.next ((hp 60).trans rfl) rfl ?_
        refine am_R.next ((hp 61).trans rfl) rfl ?_
        obtain ⟨c39, H⟩ := H
        obtain ⟨h40, eh40⟩ : ∃ z : am_H, z = am_put g26 129 x4.toNat (-1) := ⟨_, rfl⟩
        have H := H h40 eh40
        refine r_iast ((hp 91).trans rfl) (hw.a (i := 129) (by decide) rfl c39.1 c39.2) ?_
        have hw : wf h40 := by rw [eh40]; exact hw.pa na_129
        change am_R _ _ _ _ _ _ (am_put g26 129 x4.toNat (-1)) _
        rw [← eh40]
        obtain ⟨y41, ey41⟩ : ∃ z : Int, z = am_w (x4 + 1) := ⟨_, rfl⟩
        have H := H y41 ey41
        refine am_R.next (lv' := [some (.inr (.inr ((109 : Nat) : Int))), some (.inl x1), some (.inl x2), some (.inl x3), some (.inl y41), some (.inl r25), none]) (st' := []) (h' := h40) (pc' := 95) ((hp 92).trans rfl) (by rw [ey41]; rfl) ?_
        refine am_R.next ((hp 95).trans rfl) rfl ?_
        exact r_le hs in_110 (le_k (le_k (le_k (le_k (le_k (le_d (le_k le_n))))))) H
theorem w_M_mostAlike_101 {scr : Nat × (Nat → Int)} {d : Nat} {h : am_H} {Q : Option am_V → am_H → Prop} {x1 x2 x3 x4 : Int} (hs : am_sc scr) (hw : wf h) (H : (¬ (x4 < 10) → (Q (some (.inl x3)) h)) ∧ (x4 < 10 → (am_R (am_prog scr) (d + 1) f_M_mostAlike 114 [some (.inr (.inr ((109 : Nat) : Int))), some (.inl x1), some (.inl x2), some (.inl x3), some (.inl x4), some (.inl 0), some (.inl 0)] [] h Q))) : am_R (am_prog scr) (d + 1) f_M_mostAlike 101 [some (.inr (.inr ((109 : Nat) : Int))), some (.inl x1), some (.inl x2), some (.inl x3), some (.inl x4), none, none] [] h Q := by
  have hp : ∀ k, (am_prog scr).1 f_M_mostAlike k = c_M_mostAlike k := fun _ => rfl
  refine am_R.next ((hp 101).trans rfl) rfl ?_
  refine am_R.next ((hp 103).trans rfl) rfl ?_
  refine r_ic ((hp 105).trans rfl) (fun c1 => ?_) (fun c1 => ?_)
  · have H := H.1 c1
    refine am_R.next ((hp 184).trans rfl) rfl ?_
    exact am_R.ret ((hp 185).trans rfl) rfl H
  · have H := H.2 (Decidable.not_not.mp c1)
    refine am_R.next ((hp 108).trans rfl) rfl ?_
    refine am_R.next (lv' := [some (.inr (.inr ((109 : Nat) : Int))), some (.inl x1), some (.inl x2), some (.inl x3), some (.inl x4), some (.inl 0), none]) ((hp 109).trans rfl) rfl ?_
    refine am_R.next ((hp 111).trans rfl) rfl ?_
    refine am_R.next (lv' := [some (.inr (.inr ((109 : Nat) : Int))), some (.inl x1), some (.inl x2), some (.inl x3), some (.inl x4), some (.inl 0), some (.inl 0)]) ((hp 112).trans rfl) rfl ?_
    exact H
theorem w_M_mostAlike_114 {scr : Nat × (Nat → Int)} {d : Nat} {h : am_H} {Q : Option am_V → am_H → Prop} {x1 x2 x3 x4 x5 x6 : Int} (hs : am_sc scr) (hw : wf h) (H : (¬ (x6 < 10) → ((x5 ≤ x3 → (∀ y1 : Int, y1 = am_w (x4 + 1) → (am_R (am_prog scr) (d + 1) f_M_mostAlike 101 [some (.inr (.inr ((109 : Nat) : Int))), some (.inl x1), some (.inl x2), some (.inl x3), some (.inl y1), none, none] [] h Q))) ∧ (¬ (x5 ≤ x3) → (∀ y2 : Int, y2 = am_w (x4 + 1) → (am_R (am_prog scr) (d + 1) f_M_mostAlike 101 [some (.inr (.inr ((109 : Nat) : Int))), some (.inl x1), some (.inl x2), some (.inl x5), some (.inl y2), none, none] [] h Q))))) ∧ (x6 < 10 → ((0 ≤ x4 ∧ x4 < 10) ∧ (((h.2.2.2 129 x4.toNat) = (-1) → (∀ y5 : Int, y5 = am_w (x5 + 0) → (∀ y6 : Int, y6 = am_w (x6 + 1) → (am_R (am_prog scr) (d + 1) f_M_mostAlike 114 [some (.inr (.inr ((109 : Nat) : Int))), some (.inl x1), some (.inl x2), some (.inl x3), some (.inl x4), some (.inl y5), some (.inl y6)] [] h Q)))) ∧ (¬ ((h.2.2.2 129 x4.toNat) = (-1)) → ((0 ≤ x6 ∧ x6 < 10) ∧ ((0 ≤ x4 ∧ x4 < 10) ∧ ((¬ ((h.2.2.2 129 x6.toNat) = (h.2.2.2 129 x4.toNat)) → (∀ y9 : Int, y9 = am_w (x5 + 0) → (∀ y10 : Int, y10 = am_w (x6 + 1) → (am_R (am_prog scr) (d + 1) f_M_mostAlike 114 [some (.inr (.inr ((109 : Nat) : Int))), some (.inl x1), some (.inl x2), some (.inl x3), some (.inl x4), some (.inl y9), some (.inl y10)] [] h Q)))) ∧ ((h.2.2.2 129 x6.toNat) = (h.2.2.2 129 x4.toNat) → (∀ y11 : Int, y11 = am_w (x5 + 1) → (∀ y12 : Int, y12 = am_w (x6 + 1) → (am_R (am_prog scr) (d + 1) f_M_mostAlike 114 [some (.inr (.inr ((109 : Nat) : Int))), some (.inl x1), some (.inl x2), some (.inl x3), some (.inl x4), some (.inl y11), some (.inl y12)] [] h Q)))))))))))) : am_R (am_prog scr) (d + 1) f_M_mostAlike 114 [some (.inr (.inr ((109 : Nat) : Int))), some (.inl x1), some (.inl x2), some (.inl x3), some (.inl x4), some (.inl x5), some (.inl x6)] [] h Q := by
  have hp : ∀ k, (am_prog scr).1 f_M_mostAlike k = c_M_mostAlike k := fun _ => rfl
  refine am_R.next ((hp 114).trans rfl) rfl ?_
  refine am_R.next ((hp 116).trans rfl) rfl ?_
  refine r_ic ((hp 118).trans rfl) (fun c15 => ?_) (fun c15 => ?_)
  · have H := H.1 c15
    refine am_R.next ((hp 165).trans rfl) rfl ?_
    refine am_R.next ((hp 167).trans rfl) rfl ?_
    refine r_ic ((hp 168).trans rfl) (fun c3 => ?_) (fun c3 => ?_)
    · have H := H.1 c3
      refine am_R.next ((hp 176).trans rfl) rfl ?_
      refine am_R.next (lv' := [some (.inr (.inr ((109 : Nat) : Int))), some (.inl x1), some (.inl x2), some (.inl x3), some (.inl x4), some (.inl x5), some (.inl x6)]) ((hp 177).trans rfl) rfl ?_
      obtain ⟨y1, ey1⟩ : ∃ z : Int, z = am_w (x4 + 1) := ⟨_, rfl⟩
      have H := H y1 ey1
      refine am_R.next (lv' := [some (.inr (.inr ((109 : Nat) : Int))), some (.inl x1), some (.inl x2), some (.inl x3), some (.inl y1), some (.inl x5), some (.inl x6)]) (st' := []) (h' := h) (pc' := 181) ((hp 178).trans rfl) (by rw [ey1]; rfl) ?_
      refine am_R.next ((hp 181).trans rfl) rfl ?_
      exact r_le hs in_110 (le_k (le_k (le_k (le_k (le_k (le_d (le_d le_n))))))) H
    · have H := H.2 c3
      refine am_R.next ((hp 171).trans rfl) rfl ?_
      refine am_R.next ((hp 173).trans rfl) rfl ?_
      refine am_R.next (lv' := [some (.inr (.inr ((109 : Nat) : Int))), some (.inl x1), some (.inl x2), some (.inl x5), some (.inl x4), some (.inl x5), some (.inl x6)]) ((hp 177).trans rfl) rfl ?_
      obtain ⟨y2, ey2⟩ : ∃ z : Int, z = am_w (x4 + 1) := ⟨_, rfl⟩
      have H := H y2 ey2
      refine am_R.next (lv' := [some (.inr (.inr ((109 : Nat) : Int))), some (.inl x1), some (.inl x2), some (.inl x5), some (.inl y2), some (.inl x5), some (.inl x6)]) (st' := []) (h' := h) (pc' := 181) ((hp 178).trans rfl) (by rw [ey2]; rfl) ?_
      refine am_R.next ((hp 181).trans rfl) rfl ?_
      exact r_le hs in_110 (le_k (le_k (le_k (le_k (le_k (le_d (le_d le_n))))))) H
  · have H := H.2 (Decidable.not_not.mp c15)
    refine am_R.next ((hp 121).trans rfl) rfl ?_
    refine am_R.next ((hp 123).trans rfl) rfl ?_
    refine r_getR ((hp 124).trans rfl) (hw.o (i := 109) (by decide) rfl) (hw.r wr_109_36) ?_
    refine am_R.next ((hp 127).trans rfl) rfl ?_
    obtain ⟨c4, H⟩ := H
    refine r_iald ((hp 129).trans rfl) (hw.a (i := 129) (by decide) rfl c4.1 c4.2) ?_
    refine am_R.next ((hp 130).trans rfl) rfl ?_
    refine r_ic ((hp 131).trans rfl) (fun c14 => ?_) (fun c14 => ?_)
    · have H := H.1 c14
      refine am_R.next ((hp 155).trans rfl) rfl ?_
      refine am_R.next ((hp 156).trans rfl) rfl ?_
      obtain ⟨y5, ey5⟩ : ∃ z : Int, z = am_w (x5 + 0) := ⟨_, rfl⟩
      have H := H y5 ey5
      refine am_R.next (lv' := [some (.inr (.inr ((109 : Nat) : Int))), some (.inl x1), some (.inl x2), some (.inl x3), some (.inl x4), some (.inl y5), some (.inl x6)]) (st' := []) (h' := h) (pc' := 159) ((hp 157).trans rfl) (by rw [ey5]; rfl) ?_
      obtain ⟨y6, ey6⟩ : ∃ z : Int, z = am_w (x6 + 1) := ⟨_, rfl⟩
      have H := H y6 ey6
      refine am_R.next (lv' := [some (.inr (.inr ((109 : Nat) : Int))), some (.inl x1), some (.inl x2), some (.inl x3), some (.inl x4), some (.inl y5), some (.inl y6)]) (st' := []) (h' := h) (pc' := 162) ((hp 159).trans rfl) (by rw [ey6]; rfl) ?_
      refine am_R.next ((hp 162).trans rfl) rfl ?_
      exact H
    · have H := H.2 c14
      refine am_R.next ((hp 134).trans rfl) rfl ?_
      refine r_getR ((hp 135).trans rfl) (hw.o (i := 109) (by decide) rfl) (hw.r wr_109_36) ?_
      refine am_R.next ((hp 138).trans rfl) rfl ?_
      obtain ⟨c7, H⟩ := H
      refine r_iald ((hp 140).trans rfl) (hw.a (i := 129) (by decide) rfl c7.1 c7.2) ?_
      refine am_R.next ((hp 141).trans rfl) rfl ?_
      refine r_getR ((hp 142).trans rfl) (hw.o (i := 109) (by decide) rfl) (hw.r wr_109_36) ?_
      refine am_R.next ((hp 145).trans rfl) rfl ?_
      obtain ⟨c8, H⟩ := H
      refine r_iald ((hp 147).trans rfl) (hw.a (i := 129) (by decide) rfl c8.1 c8.2) ?_
      refine r_ic ((hp 148).trans rfl) (fun c13 => ?_) (fun c13 => ?_)
      · have H := H.1 c13
        refine am_R.next ((hp 155).trans rfl) rfl ?_
        refine am_R.next ((hp 156).trans rfl) rfl ?_
        obtain ⟨y9, ey9⟩ : ∃ z : Int, z = am_w (x5 + 0) := ⟨_, rfl⟩
        have H := H y9 ey9
        refine am_R.next (lv' := [some (.inr (.inr ((109 : Nat) : Int))), some (.inl x1), some (.inl x2), some (.inl x3), some (.inl x4), some (.inl y9), some (.inl x6)]) (st' := []) (h' := h) (pc' := 159) ((hp 157).trans rfl) (by rw [ey9]; rfl) ?_
        obtain ⟨y10, ey10⟩ : ∃ z : Int, z = am_w (x6 + 1) := ⟨_, rfl⟩
        have H := H y10 ey10
        refine am_R.next (lv' := [some (.inr (.inr ((109 : Nat) : Int))), some (.inl x1), some (.inl x2), some (.inl x3), some (.inl x4), some (.inl y9), some (.inl y10)]) (st' := []) (h' := h) (pc' := 162) ((hp 159).trans rfl) (by rw [ey10]; rfl) ?_
        refine am_R.next ((hp 162).trans rfl) rfl ?_
        exact H
      · have H := H.2 (Decidable.not_not.mp c13)
        refine am_R.next ((hp 151).trans rfl) rfl ?_
        refine am_R.next ((hp 152).trans rfl) rfl ?_
        refine am_R.next ((hp 156).trans rfl) rfl ?_
        obtain ⟨y11, ey11⟩ : ∃ z : Int, z = am_w (x5 + 1) := ⟨_, rfl⟩
        have H := H y11 ey11
        refine am_R.next (lv' := [some (.inr (.inr ((109 : Nat) : Int))), some (.inl x1), some (.inl x2), some (.inl x3), some (.inl x4), some (.inl y11), some (.inl x6)]) (st' := []) (h' := h) (pc' := 159) ((hp 157).trans rfl) (by rw [ey11]; rfl) ?_
        obtain ⟨y12, ey12⟩ : ∃ z : Int, z = am_w (x6 + 1) := ⟨_, rfl⟩
        have H := H y12 ey12
        refine am_R.next (lv' := [some (.inr (.inr ((109 : Nat) : Int))), some (.inl x1), some (.inl x2), some (.inl x3), some (.inl x4), some (.inl y11), some (.inl y12)]) (st' := []) (h' := h) (pc' := 162) ((hp 159).trans rfl) (by rw [ey12]; rfl) ?_
        refine am_R.next ((hp 162).trans rfl) rfl ?_
        exact H
theorem w_M_attempt_0 {scr : Nat × (Nat → Int)} {d : Nat} {h : am_H} {Q : Option am_V → am_H → Prop} {x1 : Int} (hs : am_sc scr) (hw : wf h) (H : ∀ h1 : am_H, h1 = am_put h 109 0 0 → (am_R (am_prog scr) d f_M_noSaid 0 [some (.inr (.inr ((109 : Nat) : Int))), some (.inl x1), none, none] [] h1 (fun v g2 => ∃ r3 : Int, v = some (.inl r3) ∧ wf g2 ∧ ((r3 = 0 → (am_R (am_prog scr) d f_M_hushesOf 0 [some (.inr (.inr ((109 : Nat) : Int))), some (.inl x1), none, none] [] g2 (fun v g4 => ∃ r5 : Int, v = some (.inl r5) ∧ wf g4 ∧ (am_R (am_prog scr) (d + 1) f_M_attempt 34 [some (.inr (.inr ((109 : Nat) : Int))), some (.inl x1), some (.inl r3), some (.inl r5), some (.inl (-1)), some (.inl 268435456), some (.inl 0), none] [] g4 Q)))) ∧ (¬ (r3 = 0) → (Q (some (.inl r3)) g2)))))) : am_R (am_prog scr) (d + 1) f_M_attempt 0 [some (.inr (.inr ((109 : Nat) : Int))), some (.inl x1), none, none, none, none, none, none] [] h Q := by
  have hp : ∀ k, (am_prog scr).1 f_M_attempt k = c_M_attempt k := fun _ => rfl
  refine am_R.next ((hp 0).trans rfl) rfl ?_
  refine am_R.next ((hp 1).trans rfl) rfl ?_
  obtain ⟨h1, eh1⟩ : ∃ z : am_H, z = am_put h 109 0 0 := ⟨_, rfl⟩
  have H := H h1 eh1
  refine r_putI ((hp 2).trans rfl) (hw.o (i := 109) (by decide) rfl) ?_
  have hw : wf h1 := by rw [eh1]; exact hw.put np_109_0
  change am_R _ _ _ _ _ _ (am_put h 109 0 0) _
  rw [← eh1]
  refine am_R.next ((hp 5).trans rfl) rfl ?_
  refine am_R.next ((hp 6).trans rfl) rfl ?_
  refine r_cv (bs := [.inl x1]) (st' := []) ((hp 7).trans rfl) (hw.o (i := 109) (by decide) rfl) rfl rfl (Nat.le_of_ble_eq_true rfl) (Nat.le_of_ble_eq_true rfl) (am_R.post H (fun v g2 hq => ?_))
  obtain ⟨r3, rfl, hw, H⟩ := hq
  change am_R _ _ _ _ _ [.inl r3] _ _
  refine am_R.next (lv' := [some (.inr (.inr ((109 : Nat) : Int))), some (.inl x1), some (.inl r3), none, none, none, none, none]) ((hp 10).trans rfl) rfl ?_
  refine am_R.next ((hp 11).trans rfl) rfl ?_
  refine r_if ((hp 12).trans rfl) (fun c6 => ?_) (fun c6 => ?_)
  · have H := H.1 c6
    refine am_R.next ((hp 17).trans rfl) rfl ?_
    refine am_R.next ((hp 18).trans rfl) rfl ?_
    refine r_cv (bs := [.inl x1]) (st' := []) ((hp 19).trans rfl) (hw.o (i := 109) (by decide) rfl) rfl rfl (Nat.le_of_ble_eq_true rfl) (Nat.le_of_ble_eq_true rfl) (am_R.post H (fun v g4 hq => ?_))
    obtain ⟨r5, rfl, hw, H⟩ := hq
    change am_R _ _ _ _ _ [.inl r5] _ _
    refine am_R.next (lv' := [some (.inr (.inr ((109 : Nat) : Int))), some (.inl x1), some (.inl r3), some (.inl r5), none, none, none, none]) ((hp 22).trans rfl) rfl ?_
    refine am_R.next ((hp 23).trans rfl) rfl ?_
    refine am_R.next (lv' := [some (.inr (.inr ((109 : Nat) : Int))), some (.inl x1), some (.inl r3), some (.inl r5), some (.inl (-1)), none, none, none]) ((hp 24).trans rfl) rfl ?_
    refine am_R.next ((hp 26).trans rfl) rfl ?_
    refine am_R.next (lv' := [some (.inr (.inr ((109 : Nat) : Int))), some (.inl x1), some (.inl r3), some (.inl r5), some (.inl (-1)), some (.inl 268435456), none, none]) ((hp 29).trans rfl) rfl ?_
    refine am_R.next ((hp 31).trans rfl) rfl ?_
    refine am_R.next (lv' := [some (.inr (.inr ((109 : Nat) : Int))), some (.inl x1), some (.inl r3), some (.inl r5), some (.inl (-1)), some (.inl 268435456), some (.inl 0), none]) ((hp 32).trans rfl) rfl ?_
    exact H
  · have H := H.2 c6
    refine am_R.next ((hp 15).trans rfl) rfl ?_
    exact am_R.ret ((hp 16).trans rfl) rfl H
theorem w_M_attempt_34 {scr : Nat × (Nat → Int)} {d : Nat} {h : am_H} {Q : Option am_V → am_H → Prop} {x1 x2 x3 x4 x5 x6 : Int} (hs : am_sc scr) (hw : wf h) (H : ((h.2.2.2 110 4) < x6 → (Q (some (.inl x4)) h)) ∧ (¬ ((h.2.2.2 110 4) < x6) → ((x3 = 0 → (Q (some (.inl x4)) h)) ∧ (¬ (x3 = 0) → (am_R (am_prog scr) d f_M_mostAlike 0 [some (.inr (.inr ((109 : Nat) : Int))), some (.inl x6), some (.inl x3), none, none, none, none] [] h (fun v g1 => ∃ r2 : Int, v = some (.inl r2) ∧ wf g1 ∧ ((r2 < x5 → (∀ y3 : Int, y3 = am_w (x6 + 1) → (am_R (am_prog scr) (d + 1) f_M_attempt 34 [some (.inr (.inr ((109 : Nat) : Int))), some (.inl x1), some (.inl x2), some (.inl x3), some (.inl x6), some (.inl r2), some (.inl y3), none] [] g1 Q))) ∧ (¬ (r2 < x5) → (∀ y4 : Int, y4 = am_w (x6 + 1) → (am_R (am_prog scr) (d + 1) f_M_attempt 34 [some (.inr (.inr ((109 : Nat) : Int))), some (.inl x1), some (.inl x2), some (.inl x3), some (.inl x4), some (.inl x5), some (.inl y4), none] [] g1 Q)))))))))) : am_R (am_prog scr) (d + 1) f_M_attempt 34 [some (.inr (.inr ((109 : Nat) : Int))), some (.inl x1), some (.inl x2), some (.inl x3), some (.inl x4), some (.inl x5), some (.inl x6), none] [] h Q := by
  have hp : ∀ k, (am_prog scr).1 f_M_attempt k = c_M_attempt k := fun _ => rfl
  refine am_R.next ((hp 34).trans rfl) rfl ?_
  refine am_R.next ((hp 36).trans rfl) rfl ?_
  refine r_getR ((hp 37).trans rfl) (hw.o (i := 109) (by decide) rfl) (hw.r wr_109_1) ?_
  refine am_R.next ((hp 40).trans rfl) rfl ?_
  refine r_iald ((hp 41).trans rfl) (hw.a (i := 110) (by decide) rfl (by decide) (by decide)) ?_
  refine r_ic ((hp 42).trans rfl) (fun c7 => ?_) (fun c7 => ?_)
  · have H := H.1 c7
    refine am_R.next ((hp 82).trans rfl) rfl ?_
    exact am_R.ret ((hp 84).trans rfl) rfl H
  · have H := H.2 c7
    refine am_R.next ((hp 45).trans rfl) rfl ?_
    refine r_if ((hp 46).trans rfl) (fun c6 => ?_) (fun c6 => ?_)
    · have H := H.1 c6
      refine am_R.next ((hp 82).trans rfl) rfl ?_
      exact am_R.ret ((hp 84).trans rfl) rfl H
    · have H := H.2 c6
      refine am_R.next ((hp 49).trans rfl) rfl ?_
      refine am_R.next ((hp 50).trans rfl) rfl ?_
      refine am_R.next ((hp 52).trans rfl) rfl ?_
      refine r_cv (bs := [.inl x6, .inl x3]) (st' := []) ((hp 53).trans rfl) (hw.o (i := 109) (by decide) rfl) rfl rfl (Nat.le_of_ble_eq_true rfl) (Nat.le_of_ble_eq_true rfl) (am_R.post H (fun v g1 hq => ?_))
      obtain ⟨r2, rfl, hw, H⟩ := hq
      change am_R _ _ _ _ _ [.inl r2] _ _
      refine am_R.next (lv' := [some (.inr (.inr ((109 : Nat) : Int))), some (.inl x1), some (.inl x2), some (.inl x3), some (.inl x4), some (.inl x5), some (.inl x6), some (.inl r2)]) ((hp 56).trans rfl) rfl ?_
      refine am_R.next ((hp 58).trans rfl) rfl ?_
      refine am_R.next ((hp 60).trans rfl) rfl ?_
      refine r_ic ((hp 62).trans rfl) (fun c5 => ?_) (fun c5 => ?_)
      · have H := H.1 c5
        refine am_R.next ((hp 68).trans rfl) rfl ?_
        refine am_R.next (lv' := [some (.inr (.inr ((109 : Nat) : Int))), some (.inl x1), some (.inl x2), some (.inl x3), some (.inl x6), some (.inl x5), some (.inl x6), some (.inl r2)]) ((hp 70).trans rfl) rfl ?_
        refine am_R.next ((hp 72).trans rfl) rfl ?_
        refine am_R.next (lv' := [some (.inr (.inr ((109 : Nat) : Int))), some (.inl x1), some (.inl x2), some (.inl x3), some (.inl x6), some (.inl r2), some (.inl x6), some (.inl r2)]) ((hp 74).trans rfl) rfl ?_
        obtain ⟨y3, ey3⟩ : ∃ z : Int, z = am_w (x6 + 1) := ⟨_, rfl⟩
        have H := H y3 ey3
        refine am_R.next (lv' := [some (.inr (.inr ((109 : Nat) : Int))), some (.inl x1), some (.inl x2), some (.inl x3), some (.inl x6), some (.inl r2), some (.inl y3), some (.inl r2)]) (st' := []) (h' := g1) (pc' := 79) ((hp 76).trans rfl) (by rw [ey3]; rfl) ?_
        refine am_R.next ((hp 79).trans rfl) rfl ?_
        exact r_le hs in_111 (le_k (le_k (le_k (le_k (le_k (le_k (le_k (le_d le_n)))))))) H
      · have H := H.2 c5
        refine am_R.next ((hp 65).trans rfl) rfl ?_
        obtain ⟨y4, ey4⟩ : ∃ z : Int, z = am_w (x6 + 1) := ⟨_, rfl⟩
        have H := H y4 ey4
        refine am_R.next (lv' := [some (.inr (.inr ((109 : Nat) : Int))), some (.inl x1), some (.inl x2), some (.inl x3), some (.inl x4), some (.inl x5), some (.inl y4), some (.inl r2)]) (st' := []) (h' := g1) (pc' := 79) ((hp 76).trans rfl) (by rw [ey4]; rfl) ?_
        refine am_R.next ((hp 79).trans rfl) rfl ?_
        exact r_le hs in_111 (le_k (le_k (le_k (le_k (le_k (le_k (le_k (le_d le_n)))))))) H
theorem w_M_firstBy_0 {scr : Nat × (Nat → Int)} {d : Nat} {h : am_H} {Q : Option am_V → am_H → Prop} {x1 x2 : Int} (hs : am_sc scr) (hw : wf h) (H : (0 ≤ (am_w ((am_w (7 * x1)) + x2)) ∧ (am_w ((am_w (7 * x1)) + x2)) < 2520) ∧ (∀ y2 : Int, y2 = h.2.2.2 120 ((am_w ((am_w (7 * x1)) + x2)).toNat) → ((y2 = (-1) → (Q (some (.inl 268435456)) h)) ∧ (¬ (y2 = (-1)) → ((0 ≤ y2 ∧ y2 < 360) ∧ ((¬ ((h.2.2.2 122 y2.toNat) = 268435456) → ((0 ≤ y2 ∧ y2 < 360) ∧ (Q (some (.inl (am_w ((h.2.2.2 122 y2.toNat) + 1)))) h))) ∧ ((h.2.2.2 122 y2.toNat) = 268435456 → (Q (some (.inl 268435456)) h)))))))) : am_R (am_prog scr) d f_M_firstBy 0 [some (.inr (.inr ((109 : Nat) : Int))), some (.inl x1), some (.inl x2), none] [] h Q := by
  have hp : ∀ k, (am_prog scr).1 f_M_firstBy k = c_M_firstBy k := fun _ => rfl
  refine am_R.next ((hp 0).trans rfl) rfl ?_
  refine r_getR ((hp 1).trans rfl) (hw.o (i := 109) (by decide) rfl) (hw.r wr_109_25) ?_
  refine am_R.next ((hp 4).trans rfl) rfl ?_
  refine am_R.next ((hp 6).trans rfl) rfl ?_
  refine am_R.next ((hp 7).trans rfl) rfl ?_
  refine am_R.next ((hp 8).trans rfl) rfl ?_
  refine am_R.next ((hp 9).trans rfl) rfl ?_
  obtain ⟨c1, H⟩ := H
  refine r_iald ((hp 10).trans rfl) (hw.a (i := 120) (by decide) rfl c1.1 c1.2) ?_
  obtain ⟨y2, ey2⟩ : ∃ z : Int, z = h.2.2.2 120 ((am_w ((am_w (7 * x1)) + x2)).toNat) := ⟨_, rfl⟩
  have H := H y2 ey2
  refine am_R.next (lv' := [some (.inr (.inr ((109 : Nat) : Int))), some (.inl x1), some (.inl x2), some (.inl y2)]) (st' := []) (h' := h) (pc' := 12) ((hp 11).trans rfl) (by rw [ey2]; rfl) ?_
  refine am_R.next ((hp 12).trans rfl) rfl ?_
  refine am_R.next ((hp 13).trans rfl) rfl ?_
  refine r_ic ((hp 14).trans rfl) (fun c6 => ?_) (fun c6 => ?_)
  · have H := H.1 c6
    refine am_R.next ((hp 29).trans rfl) rfl ?_
    refine am_R.next ((hp 32).trans rfl) rfl ?_
    exact am_R.ret ((hp 43).trans rfl) rfl H
  · have H := H.2 c6
    refine am_R.next ((hp 17).trans rfl) rfl ?_
    refine r_getR ((hp 18).trans rfl) (hw.o (i := 109) (by decide) rfl) (hw.r wr_109_27) ?_
    refine am_R.next ((hp 21).trans rfl) rfl ?_
    obtain ⟨c3, H⟩ := H
    refine r_iald ((hp 22).trans rfl) (hw.a (i := 122) (by decide) rfl c3.1 c3.2) ?_
    refine am_R.next ((hp 23).trans rfl) rfl ?_
    refine r_ic ((hp 26).trans rfl) (fun c5 => ?_) (fun c5 => ?_)
    · have H := H.1 c5
      refine am_R.next ((hp 35).trans rfl) rfl ?_
      refine r_getR ((hp 36).trans rfl) (hw.o (i := 109) (by decide) rfl) (hw.r wr_109_27) ?_
      refine am_R.next ((hp 39).trans rfl) rfl ?_
      obtain ⟨c4, H⟩ := H
      refine r_iald ((hp 40).trans rfl) (hw.a (i := 122) (by decide) rfl c4.1 c4.2) ?_
      refine am_R.next ((hp 41).trans rfl) rfl ?_
      refine am_R.next ((hp 42).trans rfl) rfl ?_
      exact am_R.ret ((hp 43).trans rfl) rfl H
    · have H := H.2 (Decidable.not_not.mp c5)
      refine am_R.next ((hp 29).trans rfl) rfl ?_
      refine am_R.next ((hp 32).trans rfl) rfl ?_
      exact am_R.ret ((hp 43).trans rfl) rfl H
theorem w_M_otherAt_0 {scr : Nat × (Nat → Int)} {d : Nat} {h : am_H} {Q : Option am_V → am_H → Prop} {x1 : Int} (hs : am_sc scr) (hw : wf h) (H : am_R (am_prog scr) d f_M_isOver 0 [some (.inr (.inr ((109 : Nat) : Int))), some (.inl x1)] [] h (fun v g1 => ∃ r2 : Int, v = some (.inl r2) ∧ wf g1 ∧ ((r2 = 0 → (am_R (am_prog scr) (d + 1) f_M_otherAt 19 [some (.inr (.inr ((109 : Nat) : Int))), some (.inl x1), some (.inl 0), some (.inl 0), none] [] g1 Q)) ∧ (¬ (r2 = 0) → ((0 ≤ x1 ∧ x1 < 360) ∧ (Q (some (.inl (g1.2.2.2 122 x1.toNat))) g1)))))) : am_R (am_prog scr) (d + 1) f_M_otherAt 0 [some (.inr (.inr ((109 : Nat) : Int))), some (.inl x1), none, none, none] [] h Q := by
  have hp : ∀ k, (am_prog scr).1 f_M_otherAt k = c_M_otherAt k := fun _ => rfl
  refine am_R.next ((hp 0).trans rfl) rfl ?_
  refine am_R.next ((hp 1).trans rfl) rfl ?_
  refine r_cv (bs := [.inl x1]) (st' := []) ((hp 2).trans rfl) (hw.o (i := 109) (by decide) rfl) rfl rfl (Nat.le_of_ble_eq_true rfl) (Nat.le_of_ble_eq_true rfl) (am_R.post H (fun v g1 hq => ?_))
  obtain ⟨r2, rfl, hw, H⟩ := hq
  change am_R _ _ _ _ _ [.inl r2] _ _
  refine r_if ((hp 5).trans rfl) (fun c4 => ?_) (fun c4 => ?_)
  · have H := H.1 c4
    refine am_R.next ((hp 15).trans rfl) rfl ?_
    refine am_R.next (lv' := [some (.inr (.inr ((109 : Nat) : Int))), some (.inl x1), some (.inl 0), none, none]) ((hp 16).trans rfl) rfl ?_
    refine am_R.next ((hp 17).trans rfl) rfl ?_
    refine am_R.next (lv' := [some (.inr (.inr ((109 : Nat) : Int))), some (.inl x1), some (.inl 0), some (.inl 0), none]) ((hp 18).trans rfl) rfl ?_
    exact H
  · have H := H.2 c4
    refine am_R.next ((hp 8).trans rfl) rfl ?_
    refine r_getR ((hp 9).trans rfl) (hw.o (i := 109) (by decide) rfl) (hw.r wr_109_27) ?_
    refine am_R.next ((hp 12).trans rfl) rfl ?_
    obtain ⟨c3, H⟩ := H
    refine r_iald ((hp 13).trans rfl) (hw.a (i := 122) (by decide) rfl c3.1 c3.2) ?_
    exact am_R.ret ((hp 14).trans rfl) rfl H
theorem w_M_otherAt_19 {scr : Nat × (Nat → Int)} {d : Nat} {h : am_H} {Q : Option am_V → am_H → Prop} {x1 x2 x3 : Int} (hs : am_sc scr) (hw : wf h) (H : (¬ (x3 < 7) → (Q (some (.inl x2)) h)) ∧ (x3 < 7 → ((0 ≤ (am_w ((am_w (7 * x1)) + x3)) ∧ (am_w ((am_w (7 * x1)) + x3)) < 2520) ∧ (∀ y2 : Int, y2 = h.2.2.2 120 ((am_w ((am_w (7 * x1)) + x3)).toNat) → ((¬ (y2 = (-1)) → ((0 ≤ y2 ∧ y2 < 360) ∧ ((¬ ((h.2.2.2 121 y2.toNat) = 268435456) → ((0 ≤ y2 ∧ y2 < 360) ∧ (((am_w ((h.2.2.2 121 y2.toNat) + 1)) ≤ x2 → (∀ y5 : Int, y5 = am_w (x3 + 1) → (am_R (am_prog scr) (d + 1) f_M_otherAt 19 [some (.inr (.inr ((109 : Nat) : Int))), some (.inl x1), some (.inl x2), some (.inl y5), none] [] h Q))) ∧ (¬ ((am_w ((h.2.2.2 121 y2.toNat) + 1)) ≤ x2) → ((0 ≤ y2 ∧ y2 < 360) ∧ (∀ y7 : Int, y7 = am_w ((h.2.2.2 121 y2.toNat) + 1) → (∀ y8 : Int, y8 = am_w (x3 + 1) → (am_R (am_prog scr) (d + 1) f_M_otherAt 19 [some (.inr (.inr ((109 : Nat) : Int))), some (.inl x1), some (.inl y7), some (.inl y8), none] [] h Q)))))))) ∧ ((h.2.2.2 121 y2.toNat) = 268435456 → (Q (some (.inl 268435456)) h))))) ∧ (y2 = (-1) → (∀ y11 : Int, y11 = am_w (x3 + 1) → (am_R (am_prog scr) (d + 1) f_M_otherAt 19 [some (.inr (.inr ((109 : Nat) : Int))), some (.inl x1), some (.inl x2), some (.inl y11), none] [] h Q)))))))) : am_R (am_prog scr) (d + 1) f_M_otherAt 19 [some (.inr (.inr ((109 : Nat) : Int))), some (.inl x1), some (.inl x2), some (.inl x3), none] [] h Q := by
  have hp : ∀ k, (am_prog scr).1 f_M_otherAt k = c_M_otherAt k := fun _ => rfl
  refine am_R.next ((hp 19).trans rfl) rfl ?_
  refine am_R.next ((hp 20).trans rfl) rfl ?_
  refine r_ic ((hp 22).trans rfl) (fun c13 => ?_) (fun c13 => ?_)
  · have H := H.1 c13
    refine am_R.next ((hp 97).trans rfl) rfl ?_
    exact am_R.ret ((hp 98).trans rfl) rfl H
  · have H := H.2 (Decidable.not_not.mp c13)
    refine am_R.next ((hp 25).trans rfl) rfl ?_
    refine r_getR ((hp 26).trans rfl) (hw.o (i := 109) (by decide) rfl) (hw.r wr_109_25) ?_
    refine am_R.next ((hp 29).trans rfl) rfl ?_
    refine am_R.next ((hp 31).trans rfl) rfl ?_
    refine am_R.next ((hp 32).trans rfl) rfl ?_
    refine am_R.next ((hp 33).trans rfl) rfl ?_
    refine am_R.next ((hp 34).trans rfl) rfl ?_
    obtain ⟨c1, H⟩ := H
    refine r_iald ((hp 35).trans rfl) (hw.a (i := 120) (by decide) rfl c1.1 c1.2) ?_
    obtain ⟨y2, ey2⟩ : ∃ z : Int, z = h.2.2.2 120 ((am_w ((am_w (7 * x1)) + x3)).toNat) := ⟨_, rfl⟩
    have H := H y2 ey2
    refine am_R.next (lv' := [some (.inr (.inr ((109 : Nat) : Int))), some (.inl x1), some (.inl x2), some (.inl x3), some (.inl y2)]) (st' := []) (h' := h) (pc' := 38) ((hp 36).trans rfl) (by rw [ey2]; rfl) ?_
    refine am_R.next ((hp 38).trans rfl) rfl ?_
    refine am_R.next ((hp 40).trans rfl) rfl ?_
    refine r_ic ((hp 41).trans rfl) (fun c12 => ?_) (fun c12 => ?_)
    · have H := H.1 c12
      refine am_R.next ((hp 47).trans rfl) rfl ?_
      refine r_getR ((hp 48).trans rfl) (hw.o (i := 109) (by decide) rfl) (hw.r wr_109_26) ?_
      refine am_R.next ((hp 51).trans rfl) rfl ?_
      obtain ⟨c3, H⟩ := H
      refine r_iald ((hp 53).trans rfl) (hw.a (i := 121) (by decide) rfl c3.1 c3.2) ?_
      refine am_R.next ((hp 54).trans rfl) rfl ?_
      refine r_ic ((hp 57).trans rfl) (fun c10 => ?_) (fun c10 => ?_)
      · have H := H.1 c10
        refine am_R.next ((hp 64).trans rfl) rfl ?_
        refine r_getR ((hp 65).trans rfl) (hw.o (i := 109) (by decide) rfl) (hw.r wr_109_26) ?_
        refine am_R.next ((hp 68).trans rfl) rfl ?_
        obtain ⟨c4, H⟩ := H
        refine r_iald ((hp 70).trans rfl) (hw.a (i := 121) (by decide) rfl c4.1 c4.2) ?_
        refine am_R.next ((hp 71).trans rfl) rfl ?_
        refine am_R.next ((hp 72).trans rfl) rfl ?_
        refine am_R.next ((hp 73).trans rfl) rfl ?_
        refine r_ic ((hp 74).trans rfl) (fun c9 => ?_) (fun c9 => ?_)
        · have H := H.1 c9
          refine am_R.next ((hp 89).trans rfl) rfl ?_
          refine am_R.next (lv' := [some (.inr (.inr ((109 : Nat) : Int))), some (.inl x1), some (.inl x2), some (.inl x3), some (.inl y2)]) ((hp 90).trans rfl) rfl ?_
          obtain ⟨y5, ey5⟩ : ∃ z : Int, z = am_w (x3 + 1) := ⟨_, rfl⟩
          have H := H y5 ey5
          refine am_R.next (lv' := [some (.inr (.inr ((109 : Nat) : Int))), some (.inl x1), some (.inl x2), some (.inl y5), some (.inl y2)]) (st' := []) (h' := h) (pc' := 94) ((hp 91).trans rfl) (by rw [ey5]; rfl) ?_
          refine am_R.next ((hp 94).trans rfl) rfl ?_
          exact r_le hs in_113 (le_k (le_k (le_k (le_k (le_d le_n))))) H
        · have H := H.2 c9
          refine am_R.next ((hp 77).trans rfl) rfl ?_
          refine r_getR ((hp 78).trans rfl) (hw.o (i := 109) (by decide) rfl) (hw.r wr_109_26) ?_
          refine am_R.next ((hp 81).trans rfl) rfl ?_
          obtain ⟨c6, H⟩ := H
          refine r_iald ((hp 83).trans rfl) (hw.a (i := 121) (by decide) rfl c6.1 c6.2) ?_
          refine am_R.next ((hp 84).trans rfl) rfl ?_
          refine am_R.next ((hp 85).trans rfl) rfl ?_
          refine am_R.next ((hp 86).trans rfl) rfl ?_
          obtain ⟨y7, ey7⟩ : ∃ z : Int, z = am_w ((h.2.2.2 121 y2.toNat) + 1) := ⟨_, rfl⟩
          have H := H y7 ey7
          refine am_R.next (lv' := [some (.inr (.inr ((109 : Nat) : Int))), some (.inl x1), some (.inl y7), some (.inl x3), some (.inl y2)]) (st' := []) (h' := h) (pc' := 91) ((hp 90).trans rfl) (by rw [ey7]; rfl) ?_
          obtain ⟨y8, ey8⟩ : ∃ z : Int, z = am_w (x3 + 1) := ⟨_, rfl⟩
          have H := H y8 ey8
          refine am_R.next (lv' := [some (.inr (.inr ((109 : Nat) : Int))), some (.inl x1), some (.inl y7), some (.inl y8), some (.inl y2)]) (st' := []) (h' := h) (pc' := 94) ((hp 91).trans rfl) (by rw [ey8]; rfl) ?_
          refine am_R.next ((hp 94).trans rfl) rfl ?_
          exact r_le hs in_113 (le_k (le_k (le_k (le_k (le_d le_n))))) H
      · have H := H.2 (Decidable.not_not.mp c10)
        refine am_R.next ((hp 60).trans rfl) rfl ?_
        exact am_R.ret ((hp 63).trans rfl) rfl H
    · have H := H.2 (Decidable.not_not.mp c12)
      refine am_R.next ((hp 44).trans rfl) rfl ?_
      obtain ⟨y11, ey11⟩ : ∃ z : Int, z = am_w (x3 + 1) := ⟨_, rfl⟩
      have H := H y11 ey11
      refine am_R.next (lv' := [some (.inr (.inr ((109 : Nat) : Int))), some (.inl x1), some (.inl x2), some (.inl y11), some (.inl y2)]) (st' := []) (h' := h) (pc' := 94) ((hp 91).trans rfl) (by rw [ey11]; rfl) ?_
      refine am_R.next ((hp 94).trans rfl) rfl ?_
      exact r_le hs in_113 (le_k (le_k (le_k (le_k (le_d le_n))))) H
theorem w_M_laysForce_0 {scr : Nat × (Nat → Int)} {d : Nat} {h : am_H} {Q : Option am_V → am_H → Prop} (hs : am_sc scr) (hw : wf h) (H : am_R (am_prog scr) d f_M_laysStands 0 [some (.inr (.inr ((109 : Nat) : Int))), none, none, none] [] h (fun v g1 => v = none ∧ wf g1 ∧ (am_R (am_prog scr) (d + 1) f_M_laysForce 6 [some (.inr (.inr ((109 : Nat) : Int))), some (.inl 0), none, none, none, none] [] g1 Q))) : am_R (am_prog scr) (d + 1) f_M_laysForce 0 [some (.inr (.inr ((109 : Nat) : Int))), none, none, none, none, none] [] h Q := by
  have hp : ∀ k, (am_prog scr).1 f_M_laysForce k = c_M_laysForce k := fun _ => rfl
  refine am_R.next ((hp 0).trans rfl) rfl ?_
  refine r_cv (bs := []) (st' := []) ((hp 1).trans rfl) (hw.o (i := 109) (by decide) rfl) rfl rfl (Nat.le_of_ble_eq_true rfl) (Nat.le_of_ble_eq_true rfl) (am_R.post H (fun v g1 hq => ?_))
  obtain ⟨rfl, hw, H⟩ := hq
  change am_R _ _ _ _ _ [] _ _
  refine am_R.next ((hp 4).trans rfl) rfl ?_
  refine am_R.next (lv' := [some (.inr (.inr ((109 : Nat) : Int))), some (.inl 0), none, none, none, none]) ((hp 5).trans rfl) rfl ?_
  exact H
theorem w_M_laysForce_6 {scr : Nat × (Nat → Int)} {d : Nat} {h : am_H} {Q : Option am_V → am_H → Prop} {x1 : Int} (hs : am_sc scr) (hw : wf h) (H : (¬ (x1 < (h.2.2.2 109 29)) → (am_R (am_prog scr) (d + 1) f_M_laysForce 75 [some (.inr (.inr ((109 : Nat) : Int))), some (.inl 1), none, none, none, none] [] h Q)) ∧ (x1 < (h.2.2.2 109 29) → ((0 ≤ x1 ∧ x1 < 360) ∧ ((0 ≤ x1 ∧ x1 < 360) ∧ (am_R (am_prog scr) d f_M_hasEnded 0 [some (.inr (.inr ((109 : Nat) : Int))), some (.inl (h.2.2.2 119 x1.toNat))] [] h (fun v g3 => ∃ r4 : Int, v = some (.inl r4) ∧ wf g3 ∧ ((r4 = 0 → (((0 ≤ (h.2.2.2 119 x1.toNat) ∧ (h.2.2.2 119 x1.toNat) < 360)) ∧ (∀ h6 : am_H, h6 = am_put g3 121 ((h.2.2.2 119 x1.toNat).toNat) 268435456 → ((0 ≤ x1 ∧ x1 < 360) ∧ ((0 ≤ x1 ∧ x1 < 360) ∧ ((0 ≤ (h6.2.2.2 119 x1.toNat) ∧ (h6.2.2.2 119 x1.toNat) < 360) ∧ (((0 ≤ (h6.2.2.2 119 x1.toNat) ∧ (h6.2.2.2 119 x1.toNat) < 360)) ∧ (∀ h11 : am_H, h11 = am_put h6 122 ((h6.2.2.2 119 x1.toNat).toNat) (h6.2.2.2 121 ((h6.2.2.2 119 x1.toNat).toNat)) → (∀ y12 : Int, y12 = am_w (x1 + 1) → (am_R (am_prog scr) (d + 1) f_M_laysForce 6 [some (.inr (.inr ((109 : Nat) : Int))), some (.inl y12), none, none, none, none] [] h11 Q)))))))))) ∧ (¬ (r4 = 0) → (((0 ≤ (h.2.2.2 119 x1.toNat) ∧ (h.2.2.2 119 x1.toNat) < 360)) ∧ (∀ h14 : am_H, h14 = am_put g3 121 ((h.2.2.2 119 x1.toNat).toNat) 0 → ((0 ≤ x1 ∧ x1 < 360) ∧ ((0 ≤ x1 ∧ x1 < 360) ∧ ((0 ≤ (h14.2.2.2 119 x1.toNat) ∧ (h14.2.2.2 119 x1.toNat) < 360) ∧ (((0 ≤ (h14.2.2.2 119 x1.toNat) ∧ (h14.2.2.2 119 x1.toNat) < 360)) ∧ (∀ h19 : am_H, h19 = am_put h14 122 ((h14.2.2.2 119 x1.toNat).toNat) (h14.2.2.2 121 ((h14.2.2.2 119 x1.toNat).toNat)) → (∀ y20 : Int, y20 = am_w (x1 + 1) → (am_R (am_prog scr) (d + 1) f_M_laysForce 6 [some (.inr (.inr ((109 : Nat) : Int))), some (.inl y20), none, none, none, none] [] h19 Q))))))))))))))))) : am_R (am_prog scr) (d + 1) f_M_laysForce 6 [some (.inr (.inr ((109 : Nat) : Int))), some (.inl x1), none, none, none, none] [] h Q := by
  have hp : ∀ k, (am_prog scr).1 f_M_laysForce k = c_M_laysForce k := fun _ => rfl
  refine am_R.next ((hp 6).trans rfl) rfl ?_
  refine am_R.next ((hp 7).trans rfl) rfl ?_
  refine r_getI ((hp 8).trans rfl) (hw.o (i := 109) (by decide) rfl) ?_
  refine r_ic ((hp 11).trans rfl) (fun c22 => ?_) (fun c22 => ?_)
  · have H := H.1 c22
    refine am_R.next ((hp 73).trans rfl) rfl ?_
    refine am_R.next (lv' := [some (.inr (.inr ((109 : Nat) : Int))), some (.inl 1), none, none, none, none]) ((hp 74).trans rfl) rfl ?_
    exact H
  · have H := H.2 (Decidable.not_not.mp c22)
    refine am_R.next ((hp 14).trans rfl) rfl ?_
    refine r_getR ((hp 15).trans rfl) (hw.o (i := 109) (by decide) rfl) (hw.r wr_109_26) ?_
    refine am_R.next ((hp 18).trans rfl) rfl ?_
    refine r_getR ((hp 19).trans rfl) (hw.o (i := 109) (by decide) rfl) (hw.r wr_109_24) ?_
    refine am_R.next ((hp 22).trans rfl) rfl ?_
    obtain ⟨c1, H⟩ := H
    refine r_iald ((hp 23).trans rfl) (hw.a (i := 119) (by decide) rfl c1.1 c1.2) ?_
    refine am_R.next ((hp 24).trans rfl) rfl ?_
    refine am_R.next ((hp 25).trans rfl) rfl ?_
    refine r_getR ((hp 26).trans rfl) (hw.o (i := 109) (by decide) rfl) (hw.r wr_109_24) ?_
    refine am_R.next ((hp 29).trans rfl) rfl ?_
    obtain ⟨c2, H⟩ := H
    refine r_iald ((hp 30).trans rfl) (hw.a (i := 119) (by decide) rfl c2.1 c2.2) ?_
    refine r_cv (bs := [.inl (h.2.2.2 119 x1.toNat)]) (st' := [.inl (h.2.2.2 119 x1.toNat), .inr (.inr ((121 : Nat) : Int))]) ((hp 31).trans rfl) (hw.o (i := 109) (by decide) rfl) rfl rfl (Nat.le_of_ble_eq_true rfl) (Nat.le_of_ble_eq_true rfl) (am_R.post H (fun v g3 hq => ?_))
    obtain ⟨r4, rfl, hw, H⟩ := hq
    change am_R _ _ _ _ _ [.inl r4, .inl (h.2.2.2 119 x1.toNat), .inr (.inr ((121 : Nat) : Int))] _ _
    refine r_if ((hp 34).trans rfl) (fun c21 => ?_) (fun c21 => ?_)
    · have H := H.1 c21
      refine am_R.next ((hp 41).trans rfl) rfl ?_
      obtain ⟨c5, H⟩ := H
      obtain ⟨h6, eh6⟩ : ∃ z : am_H, z = am_put g3 121 ((h.2.2.2 119 x1.toNat).toNat) 268435456 := ⟨_, rfl⟩
      have H := H h6 eh6
      refine r_iast ((hp 44).trans rfl) (hw.a (i := 121) (by decide) rfl c5.1 c5.2) ?_
      have hw : wf h6 := by rw [eh6]; exact hw.pa na_121
      change am_R _ _ _ _ _ _ (am_put g3 121 ((h.2.2.2 119 x1.toNat).toNat) 268435456) _
      rw [← eh6]
      refine am_R.next ((hp 45).trans rfl) rfl ?_
      refine r_getR ((hp 46).trans rfl) (hw.o (i := 109) (by decide) rfl) (hw.r wr_109_27) ?_
      refine am_R.next ((hp 49).trans rfl) rfl ?_
      refine r_getR ((hp 50).trans rfl) (hw.o (i := 109) (by decide) rfl) (hw.r wr_109_24) ?_
      refine am_R.next ((hp 53).trans rfl) rfl ?_
      obtain ⟨c7, H⟩ := H
      refine r_iald ((hp 54).trans rfl) (hw.a (i := 119) (by decide) rfl c7.1 c7.2) ?_
      refine am_R.next ((hp 55).trans rfl) rfl ?_
      refine r_getR ((hp 56).trans rfl) (hw.o (i := 109) (by decide) rfl) (hw.r wr_109_26) ?_
      refine am_R.next ((hp 59).trans rfl) rfl ?_
      refine r_getR ((hp 60).trans rfl) (hw.o (i := 109) (by decide) rfl) (hw.r wr_109_24) ?_
      refine am_R.next ((hp 63).trans rfl) rfl ?_
      obtain ⟨c8, H⟩ := H
      refine r_iald ((hp 64).trans rfl) (hw.a (i := 119) (by decide) rfl c8.1 c8.2) ?_
      obtain ⟨c9, H⟩ := H
      refine r_iald ((hp 65).trans rfl) (hw.a (i := 121) (by decide) rfl c9.1 c9.2) ?_
      obtain ⟨c10, H⟩ := H
      obtain ⟨h11, eh11⟩ : ∃ z : am_H, z = am_put h6 122 ((h6.2.2.2 119 x1.toNat).toNat) (h6.2.2.2 121 ((h6.2.2.2 119 x1.toNat).toNat)) := ⟨_, rfl⟩
      have H := H h11 eh11
      refine r_iast ((hp 66).trans rfl) (hw.a (i := 122) (by decide) rfl c10.1 c10.2) ?_
      have hw : wf h11 := by rw [eh11]; exact hw.pa na_122
      change am_R _ _ _ _ _ _ (am_put h6 122 ((h6.2.2.2 119 x1.toNat).toNat) (h6.2.2.2 121 ((h6.2.2.2 119 x1.toNat).toNat))) _
      rw [← eh11]
      obtain ⟨y12, ey12⟩ : ∃ z : Int, z = am_w (x1 + 1) := ⟨_, rfl⟩
      have H := H y12 ey12
      refine am_R.next (lv' := [some (.inr (.inr ((109 : Nat) : Int))), some (.inl y12), none, none, none, none]) (st' := []) (h' := h11) (pc' := 70) ((hp 67).trans rfl) (by rw [ey12]; rfl) ?_
      refine am_R.next ((hp 70).trans rfl) rfl ?_
      exact H
    · have H := H.2 c21
      refine am_R.next ((hp 37).trans rfl) rfl ?_
      refine am_R.next ((hp 38).trans rfl) rfl ?_
      obtain ⟨c13, H⟩ := H
      obtain ⟨h14, eh14⟩ : ∃ z : am_H, z = am_put g3 121 ((h.2.2.2 119 x1.toNat).toNat) 0 := ⟨_, rfl⟩
      have H := H h14 eh14
      refine r_iast ((hp 44).trans rfl) (hw.a (i := 121) (by decide) rfl c13.1 c13.2) ?_
      have hw : wf h14 := by rw [eh14]; exact hw.pa na_121
      change am_R _ _ _ _ _ _ (am_put g3 121 ((h.2.2.2 119 x1.toNat).toNat) 0) _
      rw [← eh14]
      refine am_R.next ((hp 45).trans rfl) rfl ?_
      refine r_getR ((hp 46).trans rfl) (hw.o (i := 109) (by decide) rfl) (hw.r wr_109_27) ?_
      refine am_R.next ((hp 49).trans rfl) rfl ?_
      refine r_getR ((hp 50).trans rfl) (hw.o (i := 109) (by decide) rfl) (hw.r wr_109_24) ?_
      refine am_R.next ((hp 53).trans rfl) rfl ?_
      obtain ⟨c15, H⟩ := H
      refine r_iald ((hp 54).trans rfl) (hw.a (i := 119) (by decide) rfl c15.1 c15.2) ?_
      refine am_R.next ((hp 55).trans rfl) rfl ?_
      refine r_getR ((hp 56).trans rfl) (hw.o (i := 109) (by decide) rfl) (hw.r wr_109_26) ?_
      refine am_R.next ((hp 59).trans rfl) rfl ?_
      refine r_getR ((hp 60).trans rfl) (hw.o (i := 109) (by decide) rfl) (hw.r wr_109_24) ?_
      refine am_R.next ((hp 63).trans rfl) rfl ?_
      obtain ⟨c16, H⟩ := H
      refine r_iald ((hp 64).trans rfl) (hw.a (i := 119) (by decide) rfl c16.1 c16.2) ?_
      obtain ⟨c17, H⟩ := H
      refine r_iald ((hp 65).trans rfl) (hw.a (i := 121) (by decide) rfl c17.1 c17.2) ?_
      obtain ⟨c18, H⟩ := H
      obtain ⟨h19, eh19⟩ : ∃ z : am_H, z = am_put h14 122 ((h14.2.2.2 119 x1.toNat).toNat) (h14.2.2.2 121 ((h14.2.2.2 119 x1.toNat).toNat)) := ⟨_, rfl⟩
      have H := H h19 eh19
      refine r_iast ((hp 66).trans rfl) (hw.a (i := 122) (by decide) rfl c18.1 c18.2) ?_
      have hw : wf h19 := by rw [eh19]; exact hw.pa na_122
      change am_R _ _ _ _ _ _ (am_put h14 122 ((h14.2.2.2 119 x1.toNat).toNat) (h14.2.2.2 121 ((h14.2.2.2 119 x1.toNat).toNat))) _
      rw [← eh19]
      obtain ⟨y20, ey20⟩ : ∃ z : Int, z = am_w (x1 + 1) := ⟨_, rfl⟩
      have H := H y20 ey20
      refine am_R.next (lv' := [some (.inr (.inr ((109 : Nat) : Int))), some (.inl y20), none, none, none, none]) (st' := []) (h' := h19) (pc' := 70) ((hp 67).trans rfl) (by rw [ey20]; rfl) ?_
      refine am_R.next ((hp 70).trans rfl) rfl ?_
      exact H
theorem w_M_laysForce_75 {scr : Nat × (Nat → Int)} {d : Nat} {h : am_H} {Q : Option am_V → am_H → Prop} {x1 : Int} (hs : am_sc scr) (hw : wf h) (H : (x1 = 0 → (am_R (am_prog scr) d f_M_standNow 0 [some (.inr (.inr ((109 : Nat) : Int)))] [] h (fun v g1 => ∃ r2 : Int, v = some (.inl r2) ∧ wf g1 ∧ ((0 ≤ r2 ∧ r2 < 360) ∧ (Q (some (.inl (g1.2.2.2 121 r2.toNat))) g1))))) ∧ (¬ (x1 = 0) → (am_R (am_prog scr) (d + 1) f_M_laysForce 83 [some (.inr (.inr ((109 : Nat) : Int))), some (.inl 0), some (.inl 0), none, none, none] [] h Q))) : am_R (am_prog scr) (d + 1) f_M_laysForce 75 [some (.inr (.inr ((109 : Nat) : Int))), some (.inl x1), none, none, none, none] [] h Q := by
  have hp : ∀ k, (am_prog scr).1 f_M_laysForce k = c_M_laysForce k := fun _ => rfl
  refine am_R.next ((hp 75).trans rfl) rfl ?_
  refine r_if ((hp 76).trans rfl) (fun c4 => ?_) (fun c4 => ?_)
  · have H := H.1 c4
    refine am_R.next ((hp 230).trans rfl) rfl ?_
    refine r_getR ((hp 231).trans rfl) (hw.o (i := 109) (by decide) rfl) (hw.r wr_109_26) ?_
    refine am_R.next ((hp 234).trans rfl) rfl ?_
    refine r_cv (bs := []) (st' := [.inr (.inr ((121 : Nat) : Int))]) ((hp 235).trans rfl) (hw.o (i := 109) (by decide) rfl) rfl rfl (Nat.le_of_ble_eq_true rfl) (Nat.le_of_ble_eq_true rfl) (am_R.post H (fun v g1 hq => ?_))
    obtain ⟨r2, rfl, hw, H⟩ := hq
    change am_R _ _ _ _ _ [.inl r2, .inr (.inr ((121 : Nat) : Int))] _ _
    obtain ⟨c3, H⟩ := H
    refine r_iald ((hp 238).trans rfl) (hw.a (i := 121) (by decide) rfl c3.1 c3.2) ?_
    exact am_R.ret ((hp 239).trans rfl) rfl H
  · have H := H.2 c4
    refine am_R.next ((hp 79).trans rfl) rfl ?_
    refine am_R.next (lv' := [some (.inr (.inr ((109 : Nat) : Int))), some (.inl 0), none, none, none, none]) ((hp 80).trans rfl) rfl ?_
    refine am_R.next ((hp 81).trans rfl) rfl ?_
    refine am_R.next (lv' := [some (.inr (.inr ((109 : Nat) : Int))), some (.inl 0), some (.inl 0), none, none, none]) ((hp 82).trans rfl) rfl ?_
    exact H
theorem w_M_laysForce_83 {scr : Nat × (Nat → Int)} {d : Nat} {h : am_H} {Q : Option am_V → am_H → Prop} {x1 x2 : Int} (hs : am_sc scr) (hw : wf h) (H : (¬ (x2 < (h.2.2.2 109 29)) → (am_R (am_prog scr) (d + 1) f_M_laysForce 75 [some (.inr (.inr ((109 : Nat) : Int))), some (.inl x1), none, none, none, none] [] h Q)) ∧ (x2 < (h.2.2.2 109 29) → ((0 ≤ x2 ∧ x2 < 360) ∧ (∀ y2 : Int, y2 = h.2.2.2 119 x2.toNat → ((0 ≤ y2 ∧ y2 < 360) ∧ (∀ y4 : Int, y4 = h.2.2.2 121 y2.toNat → (am_R (am_prog scr) (d + 1) f_M_laysForce 109 [some (.inr (.inr ((109 : Nat) : Int))), some (.inl x1), some (.inl x2), some (.inl y2), some (.inl y4), some (.inl 0)] [] h Q))))))) : am_R (am_prog scr) (d + 1) f_M_laysForce 83 [some (.inr (.inr ((109 : Nat) : Int))), some (.inl x1), some (.inl x2), none, none, none] [] h Q := by
  have hp : ∀ k, (am_prog scr).1 f_M_laysForce k = c_M_laysForce k := fun _ => rfl
  refine am_R.next ((hp 83).trans rfl) rfl ?_
  refine am_R.next ((hp 84).trans rfl) rfl ?_
  refine r_getI ((hp 85).trans rfl) (hw.o (i := 109) (by decide) rfl) ?_
  refine r_ic ((hp 88).trans rfl) (fun c5 => ?_) (fun c5 => ?_)
  · have H := H.1 c5
    refine am_R.next ((hp 227).trans rfl) rfl ?_
    exact r_le hs in_114 (le_k (le_k (le_d (le_k (le_k (le_k le_n)))))) H
  · have H := H.2 (Decidable.not_not.mp c5)
    refine am_R.next ((hp 91).trans rfl) rfl ?_
    refine r_getR ((hp 92).trans rfl) (hw.o (i := 109) (by decide) rfl) (hw.r wr_109_24) ?_
    refine am_R.next ((hp 95).trans rfl) rfl ?_
    obtain ⟨c1, H⟩ := H
    refine r_iald ((hp 96).trans rfl) (hw.a (i := 119) (by decide) rfl c1.1 c1.2) ?_
    obtain ⟨y2, ey2⟩ : ∃ z : Int, z = h.2.2.2 119 x2.toNat := ⟨_, rfl⟩
    have H := H y2 ey2
    refine am_R.next (lv' := [some (.inr (.inr ((109 : Nat) : Int))), some (.inl x1), some (.inl x2), some (.inl y2), none, none]) (st' := []) (h' := h) (pc' := 98) ((hp 97).trans rfl) (by rw [ey2]; rfl) ?_
    refine am_R.next ((hp 98).trans rfl) rfl ?_
    refine r_getR ((hp 99).trans rfl) (hw.o (i := 109) (by decide) rfl) (hw.r wr_109_26) ?_
    refine am_R.next ((hp 102).trans rfl) rfl ?_
    obtain ⟨c3, H⟩ := H
    refine r_iald ((hp 103).trans rfl) (hw.a (i := 121) (by decide) rfl c3.1 c3.2) ?_
    obtain ⟨y4, ey4⟩ : ∃ z : Int, z = h.2.2.2 121 y2.toNat := ⟨_, rfl⟩
    have H := H y4 ey4
    refine am_R.next (lv' := [some (.inr (.inr ((109 : Nat) : Int))), some (.inl x1), some (.inl x2), some (.inl y2), some (.inl y4), none]) (st' := []) (h' := h) (pc' := 106) ((hp 104).trans rfl) (by rw [ey4]; rfl) ?_
    refine am_R.next ((hp 106).trans rfl) rfl ?_
    refine am_R.next (lv' := [some (.inr (.inr ((109 : Nat) : Int))), some (.inl x1), some (.inl x2), some (.inl y2), some (.inl y4), some (.inl 0)]) ((hp 107).trans rfl) rfl ?_
    exact H
theorem w_M_laysForce_109 {scr : Nat × (Nat → Int)} {d : Nat} {h : am_H} {Q : Option am_V → am_H → Prop} {x1 x2 x3 x4 x5 : Int} (hs : am_sc scr) (hw : wf h) (H : (¬ (x5 < 7) → (am_R (am_prog scr) d f_M_otherAt 0 [some (.inr (.inr ((109 : Nat) : Int))), some (.inl x3), none, none, none] [] h (fun v g1 => ∃ r2 : Int, v = some (.inl r2) ∧ wf g1 ∧ ((0 ≤ x3 ∧ x3 < 360) ∧ ((x4 < (g1.2.2.2 121 x3.toNat) → (∀ y4 : Int, y4 = am_or x1 1 → (((0 ≤ x3 ∧ x3 < 360)) ∧ (∀ h6 : am_H, h6 = am_put g1 121 x3.toNat x4 → ((0 ≤ x3 ∧ x3 < 360) ∧ ((¬ (r2 < (h6.2.2.2 122 x3.toNat)) → ((0 ≤ x3 ∧ x3 < 360) ∧ (((0 ≤ x3 ∧ x3 < 360)) ∧ (∀ h10 : am_H, h10 = am_put h6 122 x3.toNat (h6.2.2.2 122 x3.toNat) → (∀ y11 : Int, y11 = am_w (x2 + 1) → (am_R (am_prog scr) (d + 1) f_M_laysForce 83 [some (.inr (.inr ((109 : Nat) : Int))), some (.inl y4), some (.inl y11), none, none, none] [] h10 Q)))))) ∧ (r2 < (h6.2.2.2 122 x3.toNat) → (((0 ≤ x3 ∧ x3 < 360)) ∧ (∀ h13 : am_H, h13 = am_put h6 122 x3.toNat r2 → (∀ y14 : Int, y14 = am_w (x2 + 1) → (am_R (am_prog scr) (d + 1) f_M_laysForce 83 [some (.inr (.inr ((109 : Nat) : Int))), some (.inl y4), some (.inl y14), none, none, none] [] h13 Q))))))))))) ∧ (¬ (x4 < (g1.2.2.2 121 x3.toNat)) → ((0 ≤ x3 ∧ x3 < 360) ∧ ((¬ (r2 < (g1.2.2.2 122 x3.toNat)) → (∀ y17 : Int, y17 = am_or x1 0 → (((0 ≤ x3 ∧ x3 < 360)) ∧ (∀ h19 : am_H, h19 = am_put g1 121 x3.toNat x4 → ((0 ≤ x3 ∧ x3 < 360) ∧ ((¬ (r2 < (h19.2.2.2 122 x3.toNat)) → ((0 ≤ x3 ∧ x3 < 360) ∧ (((0 ≤ x3 ∧ x3 < 360)) ∧ (∀ h23 : am_H, h23 = am_put h19 122 x3.toNat (h19.2.2.2 122 x3.toNat) → (∀ y24 : Int, y24 = am_w (x2 + 1) → (am_R (am_prog scr) (d + 1) f_M_laysForce 83 [some (.inr (.inr ((109 : Nat) : Int))), some (.inl y17), some (.inl y24), none, none, none] [] h23 Q)))))) ∧ (r2 < (h19.2.2.2 122 x3.toNat) → (((0 ≤ x3 ∧ x3 < 360)) ∧ (∀ h26 : am_H, h26 = am_put h19 122 x3.toNat r2 → (∀ y27 : Int, y27 = am_w (x2 + 1) → (am_R (am_prog scr) (d + 1) f_M_laysForce 83 [some (.inr (.inr ((109 : Nat) : Int))), some (.inl y17), some (.inl y27), none, none, none] [] h26 Q))))))))))) ∧ (r2 < (g1.2.2.2 122 x3.toNat) → (∀ y29 : Int, y29 = am_or x1 1 → (((0 ≤ x3 ∧ x3 < 360)) ∧ (∀ h31 : am_H, h31 = am_put g1 121 x3.toNat x4 → ((0 ≤ x3 ∧ x3 < 360) ∧ ((¬ (r2 < (h31.2.2.2 122 x3.toNat)) → ((0 ≤ x3 ∧ x3 < 360) ∧ (((0 ≤ x3 ∧ x3 < 360)) ∧ (∀ h35 : am_H, h35 = am_put h31 122 x3.toNat (h31.2.2.2 122 x3.toNat) → (∀ y36 : Int, y36 = am_w (x2 + 1) → (am_R (am_prog scr) (d + 1) f_M_laysForce 83 [some (.inr (.inr ((109 : Nat) : Int))), some (.inl y29), some (.inl y36), none, none, none] [] h35 Q)))))) ∧ (r2 < (h31.2.2.2 122 x3.toNat) → (((0 ≤ x3 ∧ x3 < 360)) ∧ (∀ h38 : am_H, h38 = am_put h31 122 x3.toNat r2 → (∀ y39 : Int, y39 = am_w (x2 + 1) → (am_R (am_prog scr) (d + 1) f_M_laysForce 83 [some (.inr (.inr ((109 : Nat) : Int))), some (.inl y29), some (.inl y39), none, none, none] [] h38 Q))))))))))))))))))) ∧ (x5 < 7 → (am_R (am_prog scr) d f_M_firstBy 0 [some (.inr (.inr ((109 : Nat) : Int))), some (.inl x3), some (.inl x5), none] [] h (fun v g43 => ∃ r44 : Int, v = some (.inl r44) ∧ wf g43 ∧ ((¬ (r44 < x4) → (∀ y45 : Int, y45 = am_w (x5 + 1) → (am_R (am_prog scr) (d + 1) f_M_laysForce 109 [some (.inr (.inr ((109 : Nat) : Int))), some (.inl x1), some (.inl x2), some (.inl x3), some (.inl x4), some (.inl y45)] [] g43 Q))) ∧ (r44 < x4 → (am_R (am_prog scr) d f_M_firstBy 0 [some (.inr (.inr ((109 : Nat) : Int))), some (.inl x3), some (.inl x5), none] [] g43 (fun v g46 => ∃ r47 : Int, v = some (.inl r47) ∧ wf g46 ∧ (∀ y48 : Int, y48 = am_w (x5 + 1) → (am_R (am_prog scr) (d + 1) f_M_laysForce 109 [some (.inr (.inr ((109 : Nat) : Int))), some (.inl x1), some (.inl x2), some (.inl x3), some (.inl r47), some (.inl y48)] [] g46 Q)))))))))) : am_R (am_prog scr) (d + 1) f_M_laysForce 109 [some (.inr (.inr ((109 : Nat) : Int))), some (.inl x1), some (.inl x2), some (.inl x3), some (.inl x4), some (.inl x5)] [] h Q := by
  have hp : ∀ k, (am_prog scr).1 f_M_laysForce k = c_M_laysForce k := fun _ => rfl
  refine am_R.next ((hp 109).trans rfl) rfl ?_
  refine am_R.next ((hp 111).trans rfl) rfl ?_
  refine r_ic ((hp 113).trans rfl) (fun c50 => ?_) (fun c50 => ?_)
  · have H := H.1 c50
    refine am_R.next ((hp 148).trans rfl) rfl ?_
    refine am_R.next ((hp 149).trans rfl) rfl ?_
    refine r_cv (bs := [.inl x3]) (st' := []) ((hp 150).trans rfl) (hw.o (i := 109) (by decide) rfl) rfl rfl (Nat.le_of_ble_eq_true rfl) (Nat.le_of_ble_eq_true rfl) (am_R.post H (fun v g1 hq => ?_))
    obtain ⟨r2, rfl, hw, H⟩ := hq
    change am_R _ _ _ _ _ [.inl r2] _ _
    refine am_R.next (lv' := [some (.inr (.inr ((109 : Nat) : Int))), some (.inl x1), some (.inl x2), some (.inl x3), some (.inl x4), some (.inl r2)]) ((hp 153).trans rfl) rfl ?_
    refine am_R.next ((hp 155).trans rfl) rfl ?_
    refine am_R.next ((hp 156).trans rfl) rfl ?_
    refine am_R.next ((hp 158).trans rfl) rfl ?_
    refine r_getR ((hp 159).trans rfl) (hw.o (i := 109) (by decide) rfl) (hw.r wr_109_26) ?_
    refine am_R.next ((hp 162).trans rfl) rfl ?_
    obtain ⟨c3, H⟩ := H
    refine r_iald ((hp 163).trans rfl) (hw.a (i := 121) (by decide) rfl c3.1 c3.2) ?_
    refine r_ic ((hp 164).trans rfl) (fun c42 => ?_) (fun c42 => ?_)
    · have H := H.1 c42
      refine am_R.next ((hp 178).trans rfl) rfl ?_
      refine am_R.next ((hp 179).trans rfl) rfl ?_
      refine am_R.next ((hp 183).trans rfl) rfl ?_
      obtain ⟨y4, ey4⟩ : ∃ z : Int, z = am_or x1 1 := ⟨_, rfl⟩
      have H := H y4 ey4
      refine am_R.next (lv' := [some (.inr (.inr ((109 : Nat) : Int))), some (.inl y4), some (.inl x2), some (.inl x3), some (.inl x4), some (.inl r2)]) (st' := []) (h' := g1) (pc' := 185) ((hp 184).trans rfl) (by rw [ey4]; rfl) ?_
      refine am_R.next ((hp 185).trans rfl) rfl ?_
      refine r_getR ((hp 186).trans rfl) (hw.o (i := 109) (by decide) rfl) (hw.r wr_109_26) ?_
      refine am_R.next ((hp 189).trans rfl) rfl ?_
      refine am_R.next ((hp 190).trans rfl) rfl ?_
      obtain ⟨c5, H⟩ := H
      obtain ⟨h6, eh6⟩ : ∃ z : am_H, z = am_put g1 121 x3.toNat x4 := ⟨_, rfl⟩
      have H := H h6 eh6
      refine r_iast ((hp 192).trans rfl) (hw.a (i := 121) (by decide) rfl c5.1 c5.2) ?_
      have hw : wf h6 := by rw [eh6]; exact hw.pa na_121
      change am_R _ _ _ _ _ _ (am_put g1 121 x3.toNat x4) _
      rw [← eh6]
      refine am_R.next ((hp 193).trans rfl) rfl ?_
      refine r_getR ((hp 194).trans rfl) (hw.o (i := 109) (by decide) rfl) (hw.r wr_109_27) ?_
      refine am_R.next ((hp 197).trans rfl) rfl ?_
      refine am_R.next ((hp 198).trans rfl) rfl ?_
      refine am_R.next ((hp 200).trans rfl) rfl ?_
      refine r_getR ((hp 201).trans rfl) (hw.o (i := 109) (by decide) rfl) (hw.r wr_109_27) ?_
      refine am_R.next ((hp 204).trans rfl) rfl ?_
      obtain ⟨c7, H⟩ := H
      refine r_iald ((hp 205).trans rfl) (hw.a (i := 122) (by decide) rfl c7.1 c7.2) ?_
      refine r_ic ((hp 206).trans rfl) (fun c15 => ?_) (fun c15 => ?_)
      · have H := H.1 c15
        refine am_R.next ((hp 214).trans rfl) rfl ?_
        refine r_getR ((hp 215).trans rfl) (hw.o (i := 109) (by decide) rfl) (hw.r wr_109_27) ?_
        refine am_R.next ((hp 218).trans rfl) rfl ?_
        obtain ⟨c8, H⟩ := H
        refine r_iald ((hp 219).trans rfl) (hw.a (i := 122) (by decide) rfl c8.1 c8.2) ?_
        obtain ⟨c9, H⟩ := H
        obtain ⟨h10, eh10⟩ : ∃ z : am_H, z = am_put h6 122 x3.toNat (h6.2.2.2 122 x3.toNat) := ⟨_, rfl⟩
        have H := H h10 eh10
        refine r_iast ((hp 220).trans rfl) (hw.a (i := 122) (by decide) rfl c9.1 c9.2) ?_
        have hw : wf h10 := by rw [eh10]; exact hw.pa na_122
        change am_R _ _ _ _ _ _ (am_put h6 122 x3.toNat (h6.2.2.2 122 x3.toNat)) _
        rw [← eh10]
        obtain ⟨y11, ey11⟩ : ∃ z : Int, z = am_w (x2 + 1) := ⟨_, rfl⟩
        have H := H y11 ey11
        refine am_R.next (lv' := [some (.inr (.inr ((109 : Nat) : Int))), some (.inl y4), some (.inl y11), some (.inl x3), some (.inl x4), some (.inl r2)]) (st' := []) (h' := h10) (pc' := 224) ((hp 221).trans rfl) (by rw [ey11]; rfl) ?_
        refine am_R.next ((hp 224).trans rfl) rfl ?_
        exact r_le hs in_114 (le_k (le_k (le_k (le_d (le_d (le_d le_n)))))) H
      · have H := H.2 (Decidable.not_not.mp c15)
        refine am_R.next ((hp 209).trans rfl) rfl ?_
        refine am_R.next ((hp 211).trans rfl) rfl ?_
        obtain ⟨c12, H⟩ := H
        obtain ⟨h13, eh13⟩ : ∃ z : am_H, z = am_put h6 122 x3.toNat r2 := ⟨_, rfl⟩
        have H := H h13 eh13
        refine r_iast ((hp 220).trans rfl) (hw.a (i := 122) (by decide) rfl c12.1 c12.2) ?_
        have hw : wf h13 := by rw [eh13]; exact hw.pa na_122
        change am_R _ _ _ _ _ _ (am_put h6 122 x3.toNat r2) _
        rw [← eh13]
        obtain ⟨y14, ey14⟩ : ∃ z : Int, z = am_w (x2 + 1) := ⟨_, rfl⟩
        have H := H y14 ey14
        refine am_R.next (lv' := [some (.inr (.inr ((109 : Nat) : Int))), some (.inl y4), some (.inl y14), some (.inl x3), some (.inl x4), some (.inl r2)]) (st' := []) (h' := h13) (pc' := 224) ((hp 221).trans rfl) (by rw [ey14]; rfl) ?_
        refine am_R.next ((hp 224).trans rfl) rfl ?_
        exact r_le hs in_114 (le_k (le_k (le_k (le_d (le_d (le_d le_n)))))) H
    · have H := H.2 c42
      refine am_R.next ((hp 167).trans rfl) rfl ?_
      refine am_R.next ((hp 169).trans rfl) rfl ?_
      refine r_getR ((hp 170).trans rfl) (hw.o (i := 109) (by decide) rfl) (hw.r wr_109_27) ?_
      refine am_R.next ((hp 173).trans rfl) rfl ?_
      obtain ⟨c16, H⟩ := H
      refine r_iald ((hp 174).trans rfl) (hw.a (i := 122) (by decide) rfl c16.1 c16.2) ?_
      refine r_ic ((hp 175).trans rfl) (fun c41 => ?_) (fun c41 => ?_)
      · have H := H.1 c41
        refine am_R.next ((hp 182).trans rfl) rfl ?_
        refine am_R.next ((hp 183).trans rfl) rfl ?_
        obtain ⟨y17, ey17⟩ : ∃ z : Int, z = am_or x1 0 := ⟨_, rfl⟩
        have H := H y17 ey17
        refine am_R.next (lv' := [some (.inr (.inr ((109 : Nat) : Int))), some (.inl y17), some (.inl x2), some (.inl x3), some (.inl x4), some (.inl r2)]) (st' := []) (h' := g1) (pc' := 185) ((hp 184).trans rfl) (by rw [ey17]; rfl) ?_
        refine am_R.next ((hp 185).trans rfl) rfl ?_
        refine r_getR ((hp 186).trans rfl) (hw.o (i := 109) (by decide) rfl) (hw.r wr_109_26) ?_
        refine am_R.next ((hp 189).trans rfl) rfl ?_
        refine am_R.next ((hp 190).trans rfl) rfl ?_
        obtain ⟨c18, H⟩ := H
        obtain ⟨h19, eh19⟩ : ∃ z : am_H, z = am_put g1 121 x3.toNat x4 := ⟨_, rfl⟩
        have H := H h19 eh19
        refine r_iast ((hp 192).trans rfl) (hw.a (i := 121) (by decide) rfl c18.1 c18.2) ?_
        have hw : wf h19 := by rw [eh19]; exact hw.pa na_121
        change am_R _ _ _ _ _ _ (am_put g1 121 x3.toNat x4) _
        rw [← eh19]
        refine am_R.next ((hp 193).trans rfl) rfl ?_
        refine r_getR ((hp 194).trans rfl) (hw.o (i := 109) (by decide) rfl) (hw.r wr_109_27) ?_
        refine am_R.next ((hp 197).trans rfl) rfl ?_
        refine am_R.next ((hp 198).trans rfl) rfl ?_
        refine am_R.next ((hp 200).trans rfl) rfl ?_
        refine r_getR ((hp 201).trans rfl) (hw.o (i := 109) (by decide) rfl) (hw.r wr_109_27) ?_
        refine am_R.next ((hp 204).trans rfl) rfl ?_
        obtain ⟨c20, H⟩ := H
        refine r_iald ((hp 205).trans rfl) (hw.a (i := 122) (by decide) rfl c20.1 c20.2) ?_
        refine r_ic ((hp 206).trans rfl) (fun c28 => ?_) (fun c28 => ?_)
        · have H := H.1 c28
          refine am_R.next ((hp 214).trans rfl) rfl ?_
          refine r_getR ((hp 215).trans rfl) (hw.o (i := 109) (by decide) rfl) (hw.r wr_109_27) ?_
          refine am_R.next ((hp 218).trans rfl) rfl ?_
          obtain ⟨c21, H⟩ := H
          refine r_iald ((hp 219).trans rfl) (hw.a (i := 122) (by decide) rfl c21.1 c21.2) ?_
          obtain ⟨c22, H⟩ := H
          obtain ⟨h23, eh23⟩ : ∃ z : am_H, z = am_put h19 122 x3.toNat (h19.2.2.2 122 x3.toNat) := ⟨_, rfl⟩
          have H := H h23 eh23
          refine r_iast ((hp 220).trans rfl) (hw.a (i := 122) (by decide) rfl c22.1 c22.2) ?_
          have hw : wf h23 := by rw [eh23]; exact hw.pa na_122
          change am_R _ _ _ _ _ _ (am_put h19 122 x3.toNat (h19.2.2.2 122 x3.toNat)) _
          rw [← eh23]
          obtain ⟨y24, ey24⟩ : ∃ z : Int, z = am_w (x2 + 1) := ⟨_, rfl⟩
          have H := H y24 ey24
          refine am_R.next (lv' := [some (.inr (.inr ((109 : Nat) : Int))), some (.inl y17), some (.inl y24), some (.inl x3), some (.inl x4), some (.inl r2)]) (st' := []) (h' := h23) (pc' := 224) ((hp 221).trans rfl) (by rw [ey24]; rfl) ?_
          refine am_R.next ((hp 224).trans rfl) rfl ?_
          exact r_le hs in_114 (le_k (le_k (le_k (le_d (le_d (le_d le_n)))))) H
        · have H := H.2 (Decidable.not_not.mp c28)
          refine am_R.next ((hp 209).trans rfl) rfl ?_
          refine am_R.next ((hp 211).trans rfl) rfl ?_
          obtain ⟨c25, H⟩ := H
          obtain ⟨h26, eh26⟩ : ∃ z : am_H, z = am_put h19 122 x3.toNat r2 := ⟨_, rfl⟩
          have H := H h26 eh26
          refine r_iast ((hp 220).trans rfl) (hw.a (i := 122) (by decide) rfl c25.1 c25.2) ?_
          have hw : wf h26 := by rw [eh26]; exact hw.pa na_122
          change am_R _ _ _ _ _ _ (am_put h19 122 x3.toNat r2) _
          rw [← eh26]
          obtain ⟨y27, ey27⟩ : ∃ z : Int, z = am_w (x2 + 1) := ⟨_, rfl⟩
          have H := H y27 ey27
          refine am_R.next (lv' := [some (.inr (.inr ((109 : Nat) : Int))), some (.inl y17), some (.inl y27), some (.inl x3), some (.inl x4), some (.inl r2)]) (st' := []) (h' := h26) (pc' := 224) ((hp 221).trans rfl) (by rw [ey27]; rfl) ?_
          refine am_R.next ((hp 224).trans rfl) rfl ?_
          exact r_le hs in_114 (le_k (le_k (le_k (le_d (le_d (le_d le_n)))))) H
      · have H := H.2 (Decidable.not_not.mp c41)
        refine am_R.next ((hp 178).trans rfl) rfl ?_
        refine am_R.next ((hp 179).trans rfl) rfl ?_
        refine am_R.next ((hp 183).trans rfl) rfl ?_
        obtain ⟨y29, ey29⟩ : ∃ z : Int, z = am_or x1 1 := ⟨_, rfl⟩
        have H := H y29 ey29
        refine am_R.next (lv' := [some (.inr (.inr ((109 : Nat) : Int))), some (.inl y29), some (.inl x2), some (.inl x3), some (.inl x4), some (.inl r2)]) (st' := []) (h' := g1) (pc' := 185) ((hp 184).trans rfl) (by rw [ey29]; rfl) ?_
        refine am_R.next ((hp 185).trans rfl) rfl ?_
        refine r_getR ((hp 186).trans rfl) (hw.o (i := 109) (by decide) rfl) (hw.r wr_109_26) ?_
        refine am_R.next ((hp 189).trans rfl) rfl ?_
        refine am_R.next ((hp 190).trans rfl) rfl ?_
        obtain ⟨c30, H⟩ := H
        obtain ⟨h31, eh31⟩ : ∃ z : am_H, z = am_put g1 121 x3.toNat x4 := ⟨_, rfl⟩
        have H := H h31 eh31
        refine r_iast ((hp 192).trans rfl) (hw.a (i := 121) (by decide) rfl c30.1 c30.2) ?_
        have hw : wf h31 := by rw [eh31]; exact hw.pa na_121
        change am_R _ _ _ _ _ _ (am_put g1 121 x3.toNat x4) _
        rw [← eh31]
        refine am_R.next ((hp 193).trans rfl) rfl ?_
        refine r_getR ((hp 194).trans rfl) (hw.o (i := 109) (by decide) rfl) (hw.r wr_109_27) ?_
        refine am_R.next ((hp 197).trans rfl) rfl ?_
        refine am_R.next ((hp 198).trans rfl) rfl ?_
        refine am_R.next ((hp 200).trans rfl) rfl ?_
        refine r_getR ((hp 201).trans rfl) (hw.o (i := 109) (by decide) rfl) (hw.r wr_109_27) ?_
        refine am_R.next ((hp 204).trans rfl) rfl ?_
        obtain ⟨c32, H⟩ := H
        refine r_iald ((hp 205).trans rfl) (hw.a (i := 122) (by decide) rfl c32.1 c32.2) ?_
        refine r_ic ((hp 206).trans rfl) (fun c40 => ?_) (fun c40 => ?_)
        · have H := H.1 c40
          refine am_R.next ((hp 214).trans rfl) rfl ?_
          refine r_getR ((hp 215).trans rfl) (hw.o (i := 109) (by decide) rfl) (hw.r wr_109_27) ?_
          refine am_R.next ((hp 218).trans rfl) rfl ?_
          obtain ⟨c33, H⟩ := H
          refine r_iald ((hp 219).trans rfl) (hw.a (i := 122) (by decide) rfl c33.1 c33.2) ?_
          obtain ⟨c34, H⟩ := H
          obtain ⟨h35, eh35⟩ : ∃ z : am_H, z = am_put h31 122 x3.toNat (h31.2.2.2 122 x3.toNat) := ⟨_, rfl⟩
          have H := H h35 eh35
          refine r_iast ((hp 220).trans rfl) (hw.a (i := 122) (by decide) rfl c34.1 c34.2) ?_
          have hw : wf h35 := by rw [eh35]; exact hw.pa na_122
          change am_R _ _ _ _ _ _ (am_put h31 122 x3.toNat (h31.2.2.2 122 x3.toNat)) _
          rw [← eh35]
          obtain ⟨y36, ey36⟩ : ∃ z : Int, z = am_w (x2 + 1) := ⟨_, rfl⟩
          have H := H y36 ey36
          refine am_R.next (lv' := [some (.inr (.inr ((109 : Nat) : Int))), some (.inl y29), some (.inl y36), some (.inl x3), some (.inl x4), some (.inl r2)]) (st' := []) (h' := h35) (pc' := 224) ((hp 221).trans rfl) (by rw [ey36]; rfl) ?_
          refine am_R.next ((hp 224).trans rfl) rfl ?_
          exact r_le hs in_114 (le_k (le_k (le_k (le_d (le_d (le_d le_n)))))) H
        · have H := H.2 (Decidable.not_not.mp c40)
          refine am_R.next ((hp 209).trans rfl) rfl ?_
          refine am_R.next ((hp 211).trans rfl) rfl ?_
          obtain ⟨c37, H⟩ := H
          obtain ⟨h38, eh38⟩ : ∃ z : am_H, z = am_put h31 122 x3.toNat r2 := ⟨_, rfl⟩
          have H := H h38 eh38
          refine r_iast ((hp 220).trans rfl) (hw.a (i := 122) (by decide) rfl c37.1 c37.2) ?_
          have hw : wf h38 := by rw [eh38]; exact hw.pa na_122
          change am_R _ _ _ _ _ _ (am_put h31 122 x3.toNat r2) _
          rw [← eh38]
          obtain ⟨y39, ey39⟩ : ∃ z : Int, z = am_w (x2 + 1) := ⟨_, rfl⟩
          have H := H y39 ey39
          refine am_R.next (lv' := [some (.inr (.inr ((109 : Nat) : Int))), some (.inl y29), some (.inl y39), some (.inl x3), some (.inl x4), some (.inl r2)]) (st' := []) (h' := h38) (pc' := 224) ((hp 221).trans rfl) (by rw [ey39]; rfl) ?_
          refine am_R.next ((hp 224).trans rfl) rfl ?_
          exact r_le hs in_114 (le_k (le_k (le_k (le_d (le_d (le_d le_n)))))) H
  · have H := H.2 (Decidable.not_not.mp c50)
    refine am_R.next ((hp 116).trans rfl) rfl ?_
    refine am_R.next ((hp 117).trans rfl) rfl ?_
    refine am_R.next ((hp 118).trans rfl) rfl ?_
    refine r_cv (bs := [.inl x3, .inl x5]) (st' := []) ((hp 120).trans rfl) (hw.o (i := 109) (by decide) rfl) rfl rfl (Nat.le_of_ble_eq_true rfl) (Nat.le_of_ble_eq_true rfl) (am_R.post H (fun v g43 hq => ?_))
    obtain ⟨r44, rfl, hw, H⟩ := hq
    change am_R _ _ _ _ _ [.inl r44] _ _
    refine am_R.next ((hp 123).trans rfl) rfl ?_
    refine r_ic ((hp 125).trans rfl) (fun c49 => ?_) (fun c49 => ?_)
    · have H := H.1 c49
      refine am_R.next ((hp 138).trans rfl) rfl ?_
      refine am_R.next (lv' := [some (.inr (.inr ((109 : Nat) : Int))), some (.inl x1), some (.inl x2), some (.inl x3), some (.inl x4), some (.inl x5)]) ((hp 140).trans rfl) rfl ?_
      obtain ⟨y45, ey45⟩ : ∃ z : Int, z = am_w (x5 + 1) := ⟨_, rfl⟩
      have H := H y45 ey45
      refine am_R.next (lv' := [some (.inr (.inr ((109 : Nat) : Int))), some (.inl x1), some (.inl x2), some (.inl x3), some (.inl x4), some (.inl y45)]) (st' := []) (h' := g43) (pc' := 145) ((hp 142).trans rfl) (by rw [ey45]; rfl) ?_
      refine am_R.next ((hp 145).trans rfl) rfl ?_
      exact H
    · have H := H.2 (Decidable.not_not.mp c49)
      refine am_R.next ((hp 128).trans rfl) rfl ?_
      refine am_R.next ((hp 129).trans rfl) rfl ?_
      refine am_R.next ((hp 130).trans rfl) rfl ?_
      refine r_cv (bs := [.inl x3, .inl x5]) (st' := []) ((hp 132).trans rfl) (hw.o (i := 109) (by decide) rfl) rfl rfl (Nat.le_of_ble_eq_true rfl) (Nat.le_of_ble_eq_true rfl) (am_R.post H (fun v g46 hq => ?_))
      obtain ⟨r47, rfl, hw, H⟩ := hq
      change am_R _ _ _ _ _ [.inl r47] _ _
      refine am_R.next ((hp 135).trans rfl) rfl ?_
      refine am_R.next (lv' := [some (.inr (.inr ((109 : Nat) : Int))), some (.inl x1), some (.inl x2), some (.inl x3), some (.inl r47), some (.inl x5)]) ((hp 140).trans rfl) rfl ?_
      obtain ⟨y48, ey48⟩ : ∃ z : Int, z = am_w (x5 + 1) := ⟨_, rfl⟩
      have H := H y48 ey48
      refine am_R.next (lv' := [some (.inr (.inr ((109 : Nat) : Int))), some (.inl x1), some (.inl x2), some (.inl x3), some (.inl r47), some (.inl y48)]) (st' := []) (h' := g46) (pc' := 145) ((hp 142).trans rfl) (by rw [ey48]; rfl) ?_
      refine am_R.next ((hp 145).trans rfl) rfl ?_
      exact H
theorem w_M_forces_0 {scr : Nat × (Nat → Int)} {d : Nat} {h : am_H} {Q : Option am_V → am_H → Prop} (hs : am_sc scr) (hw : wf h) (H : ∀ h1 : am_H, h1 = am_put h 109 0 0 → (am_R (am_prog scr) d f_M_laysForce 0 [some (.inr (.inr ((109 : Nat) : Int))), none, none, none, none, none] [] h1 (fun v g2 => ∃ r3 : Int, v = some (.inl r3) ∧ wf g2 ∧ (am_R (am_prog scr) d f_M_toldFar 0 [some (.inl r3)] [] g2 (fun v g4 => ∃ r5 : Int, v = some (.inl r5) ∧ wf g4 ∧ (Q (some (.inl r5)) g4)))))) : am_R (am_prog scr) (d + 1) f_M_forces 0 [some (.inr (.inr ((109 : Nat) : Int)))] [] h Q := by
  have hp : ∀ k, (am_prog scr).1 f_M_forces k = c_M_forces k := fun _ => rfl
  refine am_R.next ((hp 0).trans rfl) rfl ?_
  refine am_R.next ((hp 1).trans rfl) rfl ?_
  obtain ⟨h1, eh1⟩ : ∃ z : am_H, z = am_put h 109 0 0 := ⟨_, rfl⟩
  have H := H h1 eh1
  refine r_putI ((hp 2).trans rfl) (hw.o (i := 109) (by decide) rfl) ?_
  have hw : wf h1 := by rw [eh1]; exact hw.put np_109_0
  change am_R _ _ _ _ _ _ (am_put h 109 0 0) _
  rw [← eh1]
  refine am_R.next ((hp 5).trans rfl) rfl ?_
  refine r_cv (bs := []) (st' := []) ((hp 6).trans rfl) (hw.o (i := 109) (by decide) rfl) rfl rfl (Nat.le_of_ble_eq_true rfl) (Nat.le_of_ble_eq_true rfl) (am_R.post H (fun v g2 hq => ?_))
  obtain ⟨r3, rfl, hw, H⟩ := hq
  change am_R _ _ _ _ _ [.inl r3] _ _
  refine r_cs (as := [.inl r3]) (st' := []) ((hp 9).trans rfl) rfl rfl (Nat.le_of_ble_eq_true rfl) (Nat.le_of_ble_eq_true rfl) (am_R.post H (fun v g4 hq => ?_))
  obtain ⟨r5, rfl, hw, H⟩ := hq
  change am_R _ _ _ _ _ [.inl r5] _ _
  exact am_R.ret ((hp 12).trans rfl) rfl H
theorem w_M_best_0 {scr : Nat × (Nat → Int)} {d : Nat} {h : am_H} {Q : Option am_V → am_H → Prop} (hs : am_sc scr) (hw : wf h) (H : ∀ h1 : am_H, h1 = am_put h 109 0 0 → (am_R (am_prog scr) d f_M_laysForce 0 [some (.inr (.inr ((109 : Nat) : Int))), none, none, none, none, none] [] h1 (fun v g2 => ∃ r3 : Int, v = some (.inl r3) ∧ wf g2 ∧ (am_R (am_prog scr) (d + 1) f_M_best 12 [some (.inr (.inr ((109 : Nat) : Int))), some (.inl r3), some (.inl 0)] [] g2 Q)))) : am_R (am_prog scr) (d + 1) f_M_best 0 [some (.inr (.inr ((109 : Nat) : Int))), none, none] [] h Q := by
  have hp : ∀ k, (am_prog scr).1 f_M_best k = c_M_best k := fun _ => rfl
  refine am_R.next ((hp 0).trans rfl) rfl ?_
  refine am_R.next ((hp 1).trans rfl) rfl ?_
  obtain ⟨h1, eh1⟩ : ∃ z : am_H, z = am_put h 109 0 0 := ⟨_, rfl⟩
  have H := H h1 eh1
  refine r_putI ((hp 2).trans rfl) (hw.o (i := 109) (by decide) rfl) ?_
  have hw : wf h1 := by rw [eh1]; exact hw.put np_109_0
  change am_R _ _ _ _ _ _ (am_put h 109 0 0) _
  rw [← eh1]
  refine am_R.next ((hp 5).trans rfl) rfl ?_
  refine r_cv (bs := []) (st' := []) ((hp 6).trans rfl) (hw.o (i := 109) (by decide) rfl) rfl rfl (Nat.le_of_ble_eq_true rfl) (Nat.le_of_ble_eq_true rfl) (am_R.post H (fun v g2 hq => ?_))
  obtain ⟨r3, rfl, hw, H⟩ := hq
  change am_R _ _ _ _ _ [.inl r3] _ _
  refine am_R.next (lv' := [some (.inr (.inr ((109 : Nat) : Int))), some (.inl r3), none]) ((hp 9).trans rfl) rfl ?_
  refine am_R.next ((hp 10).trans rfl) rfl ?_
  refine am_R.next (lv' := [some (.inr (.inr ((109 : Nat) : Int))), some (.inl r3), some (.inl 0)]) ((hp 11).trans rfl) rfl ?_
  exact H
theorem w_M_best_12 {scr : Nat × (Nat → Int)} {d : Nat} {h : am_H} {Q : Option am_V → am_H → Prop} {x1 x2 : Int} (hs : am_sc scr) (hw : wf h) (H : (¬ (x2 < 7) → (Q (some (.inl (-1))) h)) ∧ (x2 < 7 → ((x1 ≤ 0 → (Q (some (.inl (-1))) h)) ∧ (¬ (x1 ≤ 0) → ((¬ (x1 < 268435456) → (Q (some (.inl (-1))) h)) ∧ (x1 < 268435456 → (am_R (am_prog scr) d f_M_standNow 0 [some (.inr (.inr ((109 : Nat) : Int)))] [] h (fun v g1 => ∃ r2 : Int, v = some (.inl r2) ∧ wf g1 ∧ (am_R (am_prog scr) d f_M_firstBy 0 [some (.inr (.inr ((109 : Nat) : Int))), some (.inl r2), some (.inl x2), none] [] g1 (fun v g3 => ∃ r4 : Int, v = some (.inl r4) ∧ wf g3 ∧ ((¬ (r4 = x1) → (∀ y5 : Int, y5 = am_w (x2 + 1) → (am_R (am_prog scr) (d + 1) f_M_best 12 [some (.inr (.inr ((109 : Nat) : Int))), some (.inl x1), some (.inl y5)] [] g3 Q))) ∧ (r4 = x1 → (Q (some (.inl x2)) g3))))))))))))) : am_R (am_prog scr) (d + 1) f_M_best 12 [some (.inr (.inr ((109 : Nat) : Int))), some (.inl x1), some (.inl x2)] [] h Q := by
  have hp : ∀ k, (am_prog scr).1 f_M_best k = c_M_best k := fun _ => rfl
  refine am_R.next ((hp 12).trans rfl) rfl ?_
  refine am_R.next ((hp 13).trans rfl) rfl ?_
  refine r_ic ((hp 15).trans rfl) (fun c9 => ?_) (fun c9 => ?_)
  · have H := H.1 c9
    refine am_R.next ((hp 50).trans rfl) rfl ?_
    exact am_R.ret ((hp 51).trans rfl) rfl H
  · have H := H.2 (Decidable.not_not.mp c9)
    refine am_R.next ((hp 18).trans rfl) rfl ?_
    refine r_if ((hp 19).trans rfl) (fun c8 => ?_) (fun c8 => ?_)
    · have H := H.1 c8
      refine am_R.next ((hp 50).trans rfl) rfl ?_
      exact am_R.ret ((hp 51).trans rfl) rfl H
    · have H := H.2 c8
      refine am_R.next ((hp 22).trans rfl) rfl ?_
      refine am_R.next ((hp 23).trans rfl) rfl ?_
      refine r_ic ((hp 26).trans rfl) (fun c7 => ?_) (fun c7 => ?_)
      · have H := H.1 c7
        refine am_R.next ((hp 50).trans rfl) rfl ?_
        exact am_R.ret ((hp 51).trans rfl) rfl H
      · have H := H.2 (Decidable.not_not.mp c7)
        refine am_R.next ((hp 29).trans rfl) rfl ?_
        refine am_R.next ((hp 30).trans rfl) rfl ?_
        refine r_cv (bs := []) (st' := [.inr (.inr ((109 : Nat) : Int))]) ((hp 31).trans rfl) (hw.o (i := 109) (by decide) rfl) rfl rfl (Nat.le_of_ble_eq_true rfl) (Nat.le_of_ble_eq_true rfl) (am_R.post H (fun v g1 hq => ?_))
        obtain ⟨r2, rfl, hw, H⟩ := hq
        change am_R _ _ _ _ _ [.inl r2, .inr (.inr ((109 : Nat) : Int))] _ _
        refine am_R.next ((hp 34).trans rfl) rfl ?_
        refine r_cv (bs := [.inl r2, .inl x2]) (st' := []) ((hp 35).trans rfl) (hw.o (i := 109) (by decide) rfl) rfl rfl (Nat.le_of_ble_eq_true rfl) (Nat.le_of_ble_eq_true rfl) (am_R.post H (fun v g3 hq => ?_))
        obtain ⟨r4, rfl, hw, H⟩ := hq
        change am_R _ _ _ _ _ [.inl r4] _ _
        refine am_R.next ((hp 38).trans rfl) rfl ?_
        refine r_ic ((hp 39).trans rfl) (fun c6 => ?_) (fun c6 => ?_)
        · have H := H.1 c6
          obtain ⟨y5, ey5⟩ : ∃ z : Int, z = am_w (x2 + 1) := ⟨_, rfl⟩
          have H := H y5 ey5
          refine am_R.next (lv' := [some (.inr (.inr ((109 : Nat) : Int))), some (.inl x1), some (.inl y5)]) (st' := []) (h' := g3) (pc' := 47) ((hp 44).trans rfl) (by rw [ey5]; rfl) ?_
          refine am_R.next ((hp 47).trans rfl) rfl ?_
          exact H
        · have H := H.2 (Decidable.not_not.mp c6)
          refine am_R.next ((hp 42).trans rfl) rfl ?_
          exact am_R.ret ((hp 43).trans rfl) rfl H
theorem w_M_laysLikely_0 {scr : Nat × (Nat → Int)} {d : Nat} {h : am_H} {Q : Option am_V → am_H → Prop} {x1 : Int} (hs : am_sc scr) (hw : wf h) (H : am_R (am_prog scr) d f_M_beginsMany 0 [some (.inr (.inr ((109 : Nat) : Int))), none] [] h (fun v g1 => v = none ∧ wf g1 ∧ (am_R (am_prog scr) (d + 1) f_M_laysLikely 6 [some (.inr (.inr ((109 : Nat) : Int))), some (.inl x1), some (.inl 0), none, none] [] g1 Q))) : am_R (am_prog scr) (d + 1) f_M_laysLikely 0 [some (.inr (.inr ((109 : Nat) : Int))), some (.inl x1), none, none, none] [] h Q := by
  have hp : ∀ k, (am_prog scr).1 f_M_laysLikely k = c_M_laysLikely k := fun _ => rfl
  refine am_R.next ((hp 0).trans rfl) rfl ?_
  refine r_cv (bs := []) (st' := []) ((hp 1).trans rfl) (hw.o (i := 109) (by decide) rfl) rfl rfl (Nat.le_of_ble_eq_true rfl) (Nat.le_of_ble_eq_true rfl) (am_R.post H (fun v g1 hq => ?_))
  obtain ⟨rfl, hw, H⟩ := hq
  change am_R _ _ _ _ _ [] _ _
  refine am_R.next ((hp 4).trans rfl) rfl ?_
  refine am_R.next (lv' := [some (.inr (.inr ((109 : Nat) : Int))), some (.inl x1), some (.inl 0), none, none]) ((hp 5).trans rfl) rfl ?_
  exact H
theorem w_M_laysLikely_6 {scr : Nat × (Nat → Int)} {d : Nat} {h : am_H} {Q : Option am_V → am_H → Prop} {x1 x2 : Int} (hs : am_sc scr) (hw : wf h) (H : (¬ (x2 < x1) → (Q none h)) ∧ (x2 < x1 → (am_R (am_prog scr) (d + 1) f_M_laysLikely 13 [some (.inr (.inr ((109 : Nat) : Int))), some (.inl x1), some (.inl x2), some (.inl 0), none] [] h Q))) : am_R (am_prog scr) (d + 1) f_M_laysLikely 6 [some (.inr (.inr ((109 : Nat) : Int))), some (.inl x1), some (.inl x2), none, none] [] h Q := by
  have hp : ∀ k, (am_prog scr).1 f_M_laysLikely k = c_M_laysLikely k := fun _ => rfl
  refine am_R.next ((hp 6).trans rfl) rfl ?_
  refine am_R.next ((hp 7).trans rfl) rfl ?_
  refine r_ic ((hp 8).trans rfl) (fun c1 => ?_) (fun c1 => ?_)
  · have H := H.1 c1
    exact am_R.ret ((hp 166).trans rfl) rfl H
  · have H := H.2 (Decidable.not_not.mp c1)
    refine am_R.next ((hp 11).trans rfl) rfl ?_
    refine am_R.next (lv' := [some (.inr (.inr ((109 : Nat) : Int))), some (.inl x1), some (.inl x2), some (.inl 0), none]) ((hp 12).trans rfl) rfl ?_
    exact H
theorem w_M_laysLikely_13 {scr : Nat × (Nat → Int)} {d : Nat} {h : am_H} {Q : Option am_V → am_H → Prop} {x1 x2 x3 : Int} (hs : am_sc scr) (hw : wf h) (H : (¬ (x3 < 360) → (am_R (am_prog scr) d f_M_isThen 0 [some (.inr (.inr ((109 : Nat) : Int))), none] [] h (fun v g1 => v = none ∧ wf g1 ∧ (∀ y2 : Int, y2 = am_w (x2 + 1) → (am_R (am_prog scr) (d + 1) f_M_laysLikely 6 [some (.inr (.inr ((109 : Nat) : Int))), some (.inl x1), some (.inl y2), none, none] [] g1 Q))))) ∧ (x3 < 360 → ((0 ≤ x3 ∧ x3 < 360) ∧ ((¬ ((h.2.2.2 124 x3.toNat) = 0) → (am_R (am_prog scr) d f_M_isOver 0 [some (.inr (.inr ((109 : Nat) : Int))), some (.inl x3)] [] h (fun v g4 => ∃ r5 : Int, v = some (.inl r5) ∧ wf g4 ∧ ((r5 = 0 → (am_R (am_prog scr) (d + 1) f_M_laysLikely 67 [some (.inr (.inr ((109 : Nat) : Int))), some (.inl x1), some (.inl x2), some (.inl x3), some (.inl 0)] [] g4 Q)) ∧ (¬ (r5 = 0) → ((0 ≤ x3 ∧ x3 < 360) ∧ ((0 ≤ x3 ∧ x3 < 360) ∧ (((0 ≤ x3 ∧ x3 < 360)) ∧ (∀ h9 : am_H, h9 = am_put g4 125 x3.toNat (am_W ((g4.2.2.2 125 x3.toNat) + (am_W (10 * (g4.2.2.2 124 x3.toNat))))) → (∀ y10 : Int, y10 = am_w (x3 + 1) → (am_R (am_prog scr) (d + 1) f_M_laysLikely 13 [some (.inr (.inr ((109 : Nat) : Int))), some (.inl x1), some (.inl x2), some (.inl y10), none] [] h9 Q))))))))))) ∧ ((h.2.2.2 124 x3.toNat) = 0 → (∀ y12 : Int, y12 = am_w (x3 + 1) → (am_R (am_prog scr) (d + 1) f_M_laysLikely 13 [some (.inr (.inr ((109 : Nat) : Int))), some (.inl x1), some (.inl x2), some (.inl y12), none] [] h Q))))))) : am_R (am_prog scr) (d + 1) f_M_laysLikely 13 [some (.inr (.inr ((109 : Nat) : Int))), some (.inl x1), some (.inl x2), some (.inl x3), none] [] h Q := by
  have hp : ∀ k, (am_prog scr).1 f_M_laysLikely k = c_M_laysLikely k := fun _ => rfl
  refine am_R.next ((hp 13).trans rfl) rfl ?_
  refine am_R.next ((hp 14).trans rfl) rfl ?_
  refine r_ic ((hp 17).trans rfl) (fun c14 => ?_) (fun c14 => ?_)
  · have H := H.1 c14
    refine am_R.next ((hp 156).trans rfl) rfl ?_
    refine r_cv (bs := []) (st' := []) ((hp 157).trans rfl) (hw.o (i := 109) (by decide) rfl) rfl rfl (Nat.le_of_ble_eq_true rfl) (Nat.le_of_ble_eq_true rfl) (am_R.post H (fun v g1 hq => ?_))
    obtain ⟨rfl, hw, H⟩ := hq
    change am_R _ _ _ _ _ [] _ _
    obtain ⟨y2, ey2⟩ : ∃ z : Int, z = am_w (x2 + 1) := ⟨_, rfl⟩
    have H := H y2 ey2
    refine am_R.next (lv' := [some (.inr (.inr ((109 : Nat) : Int))), some (.inl x1), some (.inl y2), some (.inl x3), none]) (st' := []) (h' := g1) (pc' := 163) ((hp 160).trans rfl) (by rw [ey2]; rfl) ?_
    refine am_R.next ((hp 163).trans rfl) rfl ?_
    exact r_le hs in_117 (le_k (le_k (le_k (le_d (le_k le_n))))) H
  · have H := H.2 (Decidable.not_not.mp c14)
    refine am_R.next ((hp 20).trans rfl) rfl ?_
    refine r_getR ((hp 21).trans rfl) (hw.o (i := 109) (by decide) rfl) (hw.r wr_109_30) ?_
    refine am_R.next ((hp 24).trans rfl) rfl ?_
    obtain ⟨c3, H⟩ := H
    refine r_lald ((hp 25).trans rfl) (hw.a (i := 124) (by decide) rfl c3.1 c3.2) ?_
    refine am_R.next ((hp 26).trans rfl) rfl ?_
    refine am_R.next ((hp 27).trans rfl) rfl ?_
    refine r_if ((hp 28).trans rfl) (fun c13 => ?_) (fun c13 => ?_)
    · have H := H.1 (lc_net c13)
      refine am_R.next ((hp 34).trans rfl) rfl ?_
      refine am_R.next ((hp 35).trans rfl) rfl ?_
      refine r_cv (bs := [.inl x3]) (st' := []) ((hp 36).trans rfl) (hw.o (i := 109) (by decide) rfl) rfl rfl (Nat.le_of_ble_eq_true rfl) (Nat.le_of_ble_eq_true rfl) (am_R.post H (fun v g4 hq => ?_))
      obtain ⟨r5, rfl, hw, H⟩ := hq
      change am_R _ _ _ _ _ [.inl r5] _ _
      refine r_if ((hp 39).trans rfl) (fun c11 => ?_) (fun c11 => ?_)
      · have H := H.1 c11
        refine am_R.next ((hp 64).trans rfl) rfl ?_
        refine am_R.next (lv' := [some (.inr (.inr ((109 : Nat) : Int))), some (.inl x1), some (.inl x2), some (.inl x3), some (.inl 0)]) ((hp 65).trans rfl) rfl ?_
        exact H
      · have H := H.2 c11
        refine am_R.next ((hp 42).trans rfl) rfl ?_
        refine r_getR ((hp 43).trans rfl) (hw.o (i := 109) (by decide) rfl) (hw.r wr_109_31) ?_
        refine am_R.next ((hp 46).trans rfl) rfl ?_
        refine am_R.next ((hp 47).trans rfl) rfl ?_
        obtain ⟨c6, H⟩ := H
        refine r_lald ((hp 48).trans rfl) (hw.a (i := 125) (by decide) rfl c6.1 c6.2) ?_
        refine am_R.next ((hp 49).trans rfl) rfl ?_
        refine am_R.next ((hp 52).trans rfl) rfl ?_
        refine r_getR ((hp 53).trans rfl) (hw.o (i := 109) (by decide) rfl) (hw.r wr_109_30) ?_
        refine am_R.next ((hp 56).trans rfl) rfl ?_
        obtain ⟨c7, H⟩ := H
        refine r_lald ((hp 57).trans rfl) (hw.a (i := 124) (by decide) rfl c7.1 c7.2) ?_
        refine am_R.next ((hp 58).trans rfl) rfl ?_
        refine am_R.next ((hp 59).trans rfl) rfl ?_
        obtain ⟨c8, H⟩ := H
        obtain ⟨h9, eh9⟩ : ∃ z : am_H, z = am_put g4 125 x3.toNat (am_W ((g4.2.2.2 125 x3.toNat) + (am_W (10 * (g4.2.2.2 124 x3.toNat))))) := ⟨_, rfl⟩
        have H := H h9 eh9
        refine r_last ((hp 60).trans rfl) (hw.a (i := 125) (by decide) rfl c8.1 c8.2) ?_
        have hw : wf h9 := by rw [eh9]; exact hw.pa na_125
        change am_R _ _ _ _ _ _ (am_put g4 125 x3.toNat (am_W ((g4.2.2.2 125 x3.toNat) + (am_W (10 * (g4.2.2.2 124 x3.toNat)))))) _
        rw [← eh9]
        refine am_R.next ((hp 61).trans rfl) rfl ?_
        obtain ⟨y10, ey10⟩ : ∃ z : Int, z = am_w (x3 + 1) := ⟨_, rfl⟩
        have H := H y10 ey10
        refine am_R.next (lv' := [some (.inr (.inr ((109 : Nat) : Int))), some (.inl x1), some (.inl x2), some (.inl y10), none]) (st' := []) (h' := h9) (pc' := 153) ((hp 150).trans rfl) (by rw [ey10]; rfl) ?_
        refine am_R.next ((hp 153).trans rfl) rfl ?_
        exact H
    · have H := H.2 (lc_nef c13)
      refine am_R.next ((hp 31).trans rfl) rfl ?_
      obtain ⟨y12, ey12⟩ : ∃ z : Int, z = am_w (x3 + 1) := ⟨_, rfl⟩
      have H := H y12 ey12
      refine am_R.next (lv' := [some (.inr (.inr ((109 : Nat) : Int))), some (.inl x1), some (.inl x2), some (.inl y12), none]) (st' := []) (h' := h) (pc' := 153) ((hp 150).trans rfl) (by rw [ey12]; rfl) ?_
      refine am_R.next ((hp 153).trans rfl) rfl ?_
      exact H
theorem w_M_laysLikely_67 {scr : Nat × (Nat → Int)} {d : Nat} {h : am_H} {Q : Option am_V → am_H → Prop} {x1 x2 x3 x4 : Int} (hs : am_sc scr) (hw : wf h) (H : (¬ (x4 < (h.2.2.2 110 4)) → (am_R (am_prog scr) d f_M_beatTo 0 [some (.inr (.inr ((109 : Nat) : Int))), some (.inl x3), some (.inl (-1)), some (.inl (h.2.2.2 110 28)), none, none, none] [] h (fun v g1 => ∃ r2 : Int, v = some (.inl r2) ∧ wf g1 ∧ ((0 ≤ r2 ∧ r2 < 360) ∧ ((0 ≤ x3 ∧ x3 < 360) ∧ (((0 ≤ r2 ∧ r2 < 360)) ∧ (∀ h6 : am_H, h6 = am_put g1 125 r2.toNat (am_W ((g1.2.2.2 125 r2.toNat) + (am_W ((am_w (10 - (g1.2.2.2 110 4))) * (g1.2.2.2 124 x3.toNat))))) → (∀ y7 : Int, y7 = am_w (x3 + 1) → (am_R (am_prog scr) (d + 1) f_M_laysLikely 13 [some (.inr (.inr ((109 : Nat) : Int))), some (.inl x1), some (.inl x2), some (.inl y7), none] [] h6 Q))))))))) ∧ (x4 < (h.2.2.2 110 4) → (am_R (am_prog scr) d f_M_beatTo 0 [some (.inr (.inr ((109 : Nat) : Int))), some (.inl x3), some (.inl x4), some (.inl (h.2.2.2 110 28)), none, none, none] [] h (fun v g8 => ∃ r9 : Int, v = some (.inl r9) ∧ wf g8 ∧ ((0 ≤ r9 ∧ r9 < 360) ∧ ((0 ≤ x3 ∧ x3 < 360) ∧ (((0 ≤ r9 ∧ r9 < 360)) ∧ (∀ h13 : am_H, h13 = am_put g8 125 r9.toNat (am_W ((g8.2.2.2 125 r9.toNat) + (g8.2.2.2 124 x3.toNat))) → (∀ y14 : Int, y14 = am_w (x4 + 1) → (am_R (am_prog scr) (d + 1) f_M_laysLikely 67 [some (.inr (.inr ((109 : Nat) : Int))), some (.inl x1), some (.inl x2), some (.inl x3), some (.inl y14)] [] h13 Q)))))))))) : am_R (am_prog scr) (d + 1) f_M_laysLikely 67 [some (.inr (.inr ((109 : Nat) : Int))), some (.inl x1), some (.inl x2), some (.inl x3), some (.inl x4)] [] h Q := by
  have hp : ∀ k, (am_prog scr).1 f_M_laysLikely k = c_M_laysLikely k := fun _ => rfl
  refine am_R.next ((hp 67).trans rfl) rfl ?_
  refine am_R.next ((hp 69).trans rfl) rfl ?_
  refine r_getR ((hp 70).trans rfl) (hw.o (i := 109) (by decide) rfl) (hw.r wr_109_1) ?_
  refine am_R.next ((hp 73).trans rfl) rfl ?_
  refine r_iald ((hp 74).trans rfl) (hw.a (i := 110) (by decide) rfl (by decide) (by decide)) ?_
  refine r_ic ((hp 75).trans rfl) (fun c15 => ?_) (fun c15 => ?_)
  · have H := H.1 c15
    refine am_R.next ((hp 112).trans rfl) rfl ?_
    refine r_getR ((hp 113).trans rfl) (hw.o (i := 109) (by decide) rfl) (hw.r wr_109_31) ?_
    refine am_R.next ((hp 116).trans rfl) rfl ?_
    refine am_R.next ((hp 117).trans rfl) rfl ?_
    refine am_R.next ((hp 118).trans rfl) rfl ?_
    refine am_R.next ((hp 119).trans rfl) rfl ?_
    refine r_getR ((hp 120).trans rfl) (hw.o (i := 109) (by decide) rfl) (hw.r wr_109_1) ?_
    refine am_R.next ((hp 123).trans rfl) rfl ?_
    refine r_iald ((hp 125).trans rfl) (hw.a (i := 110) (by decide) rfl (by decide) (by decide)) ?_
    refine r_cv (bs := [.inl x3, .inl (-1), .inl (h.2.2.2 110 28)]) (st' := [.inr (.inr ((125 : Nat) : Int))]) ((hp 126).trans rfl) (hw.o (i := 109) (by decide) rfl) rfl rfl (Nat.le_of_ble_eq_true rfl) (Nat.le_of_ble_eq_true rfl) (am_R.post H (fun v g1 hq => ?_))
    obtain ⟨r2, rfl, hw, H⟩ := hq
    change am_R _ _ _ _ _ [.inl r2, .inr (.inr ((125 : Nat) : Int))] _ _
    refine am_R.next ((hp 129).trans rfl) rfl ?_
    obtain ⟨c3, H⟩ := H
    refine r_lald ((hp 130).trans rfl) (hw.a (i := 125) (by decide) rfl c3.1 c3.2) ?_
    refine am_R.next ((hp 131).trans rfl) rfl ?_
    refine am_R.next ((hp 133).trans rfl) rfl ?_
    refine r_getR ((hp 134).trans rfl) (hw.o (i := 109) (by decide) rfl) (hw.r wr_109_1) ?_
    refine am_R.next ((hp 137).trans rfl) rfl ?_
    refine r_iald ((hp 138).trans rfl) (hw.a (i := 110) (by decide) rfl (by decide) (by decide)) ?_
    refine am_R.next ((hp 139).trans rfl) rfl ?_
    refine am_R.next ((hp 140).trans rfl) rfl ?_
    refine am_R.next ((hp 141).trans rfl) rfl ?_
    refine r_getR ((hp 142).trans rfl) (hw.o (i := 109) (by decide) rfl) (hw.r wr_109_30) ?_
    refine am_R.next ((hp 145).trans rfl) rfl ?_
    obtain ⟨c4, H⟩ := H
    refine r_lald ((hp 146).trans rfl) (hw.a (i := 124) (by decide) rfl c4.1 c4.2) ?_
    refine am_R.next ((hp 147).trans rfl) rfl ?_
    refine am_R.next ((hp 148).trans rfl) rfl ?_
    obtain ⟨c5, H⟩ := H
    obtain ⟨h6, eh6⟩ : ∃ z : am_H, z = am_put g1 125 r2.toNat (am_W ((g1.2.2.2 125 r2.toNat) + (am_W ((am_w (10 - (g1.2.2.2 110 4))) * (g1.2.2.2 124 x3.toNat))))) := ⟨_, rfl⟩
    have H := H h6 eh6
    refine r_last ((hp 149).trans rfl) (hw.a (i := 125) (by decide) rfl c5.1 c5.2) ?_
    have hw : wf h6 := by rw [eh6]; exact hw.pa na_125
    change am_R _ _ _ _ _ _ (am_put g1 125 r2.toNat (am_W ((g1.2.2.2 125 r2.toNat) + (am_W ((am_w (10 - (g1.2.2.2 110 4))) * (g1.2.2.2 124 x3.toNat)))))) _
    rw [← eh6]
    obtain ⟨y7, ey7⟩ : ∃ z : Int, z = am_w (x3 + 1) := ⟨_, rfl⟩
    have H := H y7 ey7
    refine am_R.next (lv' := [some (.inr (.inr ((109 : Nat) : Int))), some (.inl x1), some (.inl x2), some (.inl y7), some (.inl x4)]) (st' := []) (h' := h6) (pc' := 153) ((hp 150).trans rfl) (by rw [ey7]; rfl) ?_
    refine am_R.next ((hp 153).trans rfl) rfl ?_
    exact r_le hs in_117 (le_k (le_k (le_k (le_k (le_d le_n))))) H
  · have H := H.2 (Decidable.not_not.mp c15)
    refine am_R.next ((hp 78).trans rfl) rfl ?_
    refine r_getR ((hp 79).trans rfl) (hw.o (i := 109) (by decide) rfl) (hw.r wr_109_31) ?_
    refine am_R.next ((hp 82).trans rfl) rfl ?_
    refine am_R.next ((hp 83).trans rfl) rfl ?_
    refine am_R.next ((hp 84).trans rfl) rfl ?_
    refine am_R.next ((hp 86).trans rfl) rfl ?_
    refine r_getR ((hp 87).trans rfl) (hw.o (i := 109) (by decide) rfl) (hw.r wr_109_1) ?_
    refine am_R.next ((hp 90).trans rfl) rfl ?_
    refine r_iald ((hp 92).trans rfl) (hw.a (i := 110) (by decide) rfl (by decide) (by decide)) ?_
    refine r_cv (bs := [.inl x3, .inl x4, .inl (h.2.2.2 110 28)]) (st' := [.inr (.inr ((125 : Nat) : Int))]) ((hp 93).trans rfl) (hw.o (i := 109) (by decide) rfl) rfl rfl (Nat.le_of_ble_eq_true rfl) (Nat.le_of_ble_eq_true rfl) (am_R.post H (fun v g8 hq => ?_))
    obtain ⟨r9, rfl, hw, H⟩ := hq
    change am_R _ _ _ _ _ [.inl r9, .inr (.inr ((125 : Nat) : Int))] _ _
    refine am_R.next ((hp 96).trans rfl) rfl ?_
    obtain ⟨c10, H⟩ := H
    refine r_lald ((hp 97).trans rfl) (hw.a (i := 125) (by decide) rfl c10.1 c10.2) ?_
    refine am_R.next ((hp 98).trans rfl) rfl ?_
    refine r_getR ((hp 99).trans rfl) (hw.o (i := 109) (by decide) rfl) (hw.r wr_109_30) ?_
    refine am_R.next ((hp 102).trans rfl) rfl ?_
    obtain ⟨c11, H⟩ := H
    refine r_lald ((hp 103).trans rfl) (hw.a (i := 124) (by decide) rfl c11.1 c11.2) ?_
    refine am_R.next ((hp 104).trans rfl) rfl ?_
    obtain ⟨c12, H⟩ := H
    obtain ⟨h13, eh13⟩ : ∃ z : am_H, z = am_put g8 125 r9.toNat (am_W ((g8.2.2.2 125 r9.toNat) + (g8.2.2.2 124 x3.toNat))) := ⟨_, rfl⟩
    have H := H h13 eh13
    refine r_last ((hp 105).trans rfl) (hw.a (i := 125) (by decide) rfl c12.1 c12.2) ?_
    have hw : wf h13 := by rw [eh13]; exact hw.pa na_125
    change am_R _ _ _ _ _ _ (am_put g8 125 r9.toNat (am_W ((g8.2.2.2 125 r9.toNat) + (g8.2.2.2 124 x3.toNat)))) _
    rw [← eh13]
    obtain ⟨y14, ey14⟩ : ∃ z : Int, z = am_w (x4 + 1) := ⟨_, rfl⟩
    have H := H y14 ey14
    refine am_R.next (lv' := [some (.inr (.inr ((109 : Nat) : Int))), some (.inl x1), some (.inl x2), some (.inl x3), some (.inl y14)]) (st' := []) (h' := h13) (pc' := 109) ((hp 106).trans rfl) (by rw [ey14]; rfl) ?_
    refine am_R.next ((hp 109).trans rfl) rfl ?_
    exact H
theorem w_M_wholeOf_0 {scr : Nat × (Nat → Int)} {d : Nat} {h : am_H} {Q : Option am_V → am_H → Prop} {x0 : Int} (hs : am_sc scr) (hw : wf h) (H : am_R (am_prog scr) d f_M_wholeOf 4 [some (.inl x0), some (.inr (.inl 1)), none, some (.inl 0)] [] h Q) : am_R (am_prog scr) d f_M_wholeOf 0 [some (.inl x0), none, none, none] [] h Q := by
  have hp : ∀ k, (am_prog scr).1 f_M_wholeOf k = c_M_wholeOf k := fun _ => rfl
  refine am_R.next ((hp 0).trans rfl) rfl ?_
  refine am_R.next (lv' := [some (.inl x0), some (.inr (.inl 1)), none, none]) ((hp 1).trans rfl) rfl ?_
  refine am_R.next ((hp 2).trans rfl) rfl ?_
  refine am_R.next (lv' := [some (.inl x0), some (.inr (.inl 1)), none, some (.inl 0)]) ((hp 3).trans rfl) rfl ?_
  exact H
theorem w_M_wholeOf_4 {scr : Nat × (Nat → Int)} {d : Nat} {h : am_H} {Q : Option am_V → am_H → Prop} {x0 x1 x3 : Int} (hs : am_sc scr) (hw : wf h) (H : (¬ (x3 < x0) → (Q (some (.inr (.inl x1))) h)) ∧ (x3 < x0 → (∀ y1 : Int, y1 = am_W (x1 * 10) → (∀ y2 : Int, y2 = am_w (x3 + 1) → (am_R (am_prog scr) d f_M_wholeOf 4 [some (.inl x0), some (.inr (.inl y1)), none, some (.inl y2)] [] h Q))))) : am_R (am_prog scr) d f_M_wholeOf 4 [some (.inl x0), some (.inr (.inl x1)), none, some (.inl x3)] [] h Q := by
  have hp : ∀ k, (am_prog scr).1 f_M_wholeOf k = c_M_wholeOf k := fun _ => rfl
  refine am_R.next ((hp 4).trans rfl) rfl ?_
  refine am_R.next ((hp 5).trans rfl) rfl ?_
  refine r_ic ((hp 6).trans rfl) (fun c3 => ?_) (fun c3 => ?_)
  · have H := H.1 c3
    refine am_R.next ((hp 21).trans rfl) rfl ?_
    exact am_R.ret ((hp 22).trans rfl) rfl H
  · have H := H.2 (Decidable.not_not.mp c3)
    refine am_R.next ((hp 9).trans rfl) rfl ?_
    refine am_R.next ((hp 10).trans rfl) rfl ?_
    refine am_R.next ((hp 13).trans rfl) rfl ?_
    obtain ⟨y1, ey1⟩ : ∃ z : Int, z = am_W (x1 * 10) := ⟨_, rfl⟩
    have H := H y1 ey1
    refine am_R.next (lv' := [some (.inl x0), some (.inr (.inl y1)), none, some (.inl x3)]) (st' := []) (h' := h) (pc' := 15) ((hp 14).trans rfl) (by rw [ey1]; rfl) ?_
    obtain ⟨y2, ey2⟩ : ∃ z : Int, z = am_w (x3 + 1) := ⟨_, rfl⟩
    have H := H y2 ey2
    refine am_R.next (lv' := [some (.inl x0), some (.inr (.inl y1)), none, some (.inl y2)]) (st' := []) (h' := h) (pc' := 18) ((hp 15).trans rfl) (by rw [ey2]; rfl) ?_
    refine am_R.next ((hp 18).trans rfl) rfl ?_
    exact H
theorem w_M_common_0 {scr : Nat × (Nat → Int)} {d : Nat} {h : am_H} {Q : Option am_V → am_H → Prop} {x0 x2 : Int} (hs : am_sc scr) (hw : wf h) (H : (¬ (x2 = 0) → (x2 ≠ 0 ∧ (am_R (am_prog scr) d f_M_common 0 [some (.inr (.inl x2)), none, some (.inr (.inl (x0.tmod x2))), none] [] h (fun v g1 => ∃ r2 : Int, v = some (.inr (.inl r2)) ∧ wf g1 ∧ (Q (some (.inr (.inl r2))) g1))))) ∧ (x2 = 0 → (Q (some (.inr (.inl x0))) h))) : am_R (am_prog scr) (d + 1) f_M_common 0 [some (.inr (.inl x0)), none, some (.inr (.inl x2)), none] [] h Q := by
  have hp : ∀ k, (am_prog scr).1 f_M_common k = c_M_common k := fun _ => rfl
  refine am_R.next ((hp 0).trans rfl) rfl ?_
  refine am_R.next ((hp 1).trans rfl) rfl ?_
  refine am_R.next ((hp 2).trans rfl) rfl ?_
  refine r_if ((hp 3).trans rfl) (fun c4 => ?_) (fun c4 => ?_)
  · have H := H.1 (lc_net c4)
    refine am_R.next ((hp 10).trans rfl) rfl ?_
    refine am_R.next ((hp 11).trans rfl) rfl ?_
    refine am_R.next ((hp 12).trans rfl) rfl ?_
    obtain ⟨c3, H⟩ := H
    refine r_l2z ((hp 13).trans rfl) c3 ?_
    refine r_cs (as := [.inr (.inl x2), .inr (.inl (x0.tmod x2))]) (st' := []) ((hp 14).trans rfl) rfl rfl (Nat.le_of_ble_eq_true rfl) (Nat.le_of_ble_eq_true rfl) (am_R.post H (fun v g1 hq => ?_))
    obtain ⟨r2, rfl, hw, H⟩ := hq
    change am_R _ _ _ _ _ [.inr (.inl r2)] _ _
    exact am_R.ret ((hp 17).trans rfl) rfl H
  · have H := H.2 (lc_nef c4)
    refine am_R.next ((hp 6).trans rfl) rfl ?_
    refine am_R.next ((hp 7).trans rfl) rfl ?_
    exact am_R.ret ((hp 17).trans rfl) rfl H
theorem w_M_part_0 {scr : Nat × (Nat → Int)} {d : Nat} {h : am_H} {Q : Option am_V → am_H → Prop} {x0 x2 x4 : Int} (hs : am_sc scr) (hw : wf h) (H : (¬ (x4 = 0) → (am_R (am_prog scr) d f_M_common 0 [some (.inr (.inl x0)), none, some (.inr (.inl x2)), none] [] h (fun v g1 => ∃ r2 : Int, v = some (.inr (.inl r2)) ∧ wf g1 ∧ (r2 ≠ 0 ∧ (Q (some (.inl (am_w (am_W (x2.tdiv r2))))) g1))))) ∧ (x4 = 0 → (am_R (am_prog scr) d f_M_common 0 [some (.inr (.inl x0)), none, some (.inr (.inl x2)), none] [] h (fun v g4 => ∃ r5 : Int, v = some (.inr (.inl r5)) ∧ wf g4 ∧ (r5 ≠ 0 ∧ (Q (some (.inl (am_w (am_W (x0.tdiv r5))))) g4)))))) : am_R (am_prog scr) (d + 1) f_M_part 0 [some (.inr (.inl x0)), none, some (.inr (.inl x2)), none, some (.inl x4)] [] h Q := by
  have hp : ∀ k, (am_prog scr).1 f_M_part k = c_M_part k := fun _ => rfl
  refine am_R.next ((hp 0).trans rfl) rfl ?_
  refine r_if ((hp 2).trans rfl) (fun c7 => ?_) (fun c7 => ?_)
  · have H := H.1 c7
    refine am_R.next ((hp 9).trans rfl) rfl ?_
    refine am_R.next ((hp 10).trans rfl) rfl ?_
    refine am_R.next ((hp 11).trans rfl) rfl ?_
    refine r_cs (as := [.inr (.inl x0), .inr (.inl x2)]) (st' := [.inr (.inl x2)]) ((hp 12).trans rfl) rfl rfl (Nat.le_of_ble_eq_true rfl) (Nat.le_of_ble_eq_true rfl) (am_R.post H (fun v g1 hq => ?_))
    obtain ⟨r2, rfl, hw, H⟩ := hq
    change am_R _ _ _ _ _ [.inr (.inl r2), .inr (.inl x2)] _ _
    obtain ⟨c3, H⟩ := H
    refine r_l2z ((hp 15).trans rfl) c3 ?_
    refine am_R.next ((hp 16).trans rfl) rfl ?_
    exact am_R.ret ((hp 17).trans rfl) rfl H
  · have H := H.2 (Decidable.not_not.mp c7)
    refine am_R.next ((hp 5).trans rfl) rfl ?_
    refine am_R.next ((hp 6).trans rfl) rfl ?_
    refine am_R.next ((hp 10).trans rfl) rfl ?_
    refine am_R.next ((hp 11).trans rfl) rfl ?_
    refine r_cs (as := [.inr (.inl x0), .inr (.inl x2)]) (st' := [.inr (.inl x0)]) ((hp 12).trans rfl) rfl rfl (Nat.le_of_ble_eq_true rfl) (Nat.le_of_ble_eq_true rfl) (am_R.post H (fun v g4 hq => ?_))
    obtain ⟨r5, rfl, hw, H⟩ := hq
    change am_R _ _ _ _ _ [.inr (.inl r5), .inr (.inl x0)] _ _
    obtain ⟨c6, H⟩ := H
    refine r_l2z ((hp 15).trans rfl) c6 ?_
    refine am_R.next ((hp 16).trans rfl) rfl ?_
    exact am_R.ret ((hp 17).trans rfl) rfl H
theorem w_M_noChance_0 {scr : Nat × (Nat → Int)} {d : Nat} {h : am_H} {Q : Option am_V → am_H → Prop} {x1 x2 : Int} (hs : am_sc scr) (hw : wf h) (H : am_R (am_prog scr) d f_M_within 0 [some (.inr (.inl x2)), none, some (.inr (.inl 0)), none, some (.inr (.inl 1)), none] [] h (fun v g1 => ∃ r2 : Int, v = some (.inl r2) ∧ wf g1 ∧ ((¬ (r2 = 0) → (am_R (am_prog scr) d f_M_within 0 [some (.inr (.inl x1)), none, some (.inr (.inl 0)), none, some (.inr (.inl 7)), none] [] g1 (fun v g3 => ∃ r4 : Int, v = some (.inl r4) ∧ wf g3 ∧ ((r4 = 0 → (Q (some (.inl (-3))) g3)) ∧ (¬ (r4 = 0) → (Q (some (.inl 0)) g3)))))) ∧ (r2 = 0 → (Q (some (.inl (-2))) g1))))) : am_R (am_prog scr) (d + 1) f_M_noChance 0 [some (.inr (.inr ((109 : Nat) : Int))), some (.inl x1), some (.inl x2)] [] h Q := by
  have hp : ∀ k, (am_prog scr).1 f_M_noChance k = c_M_noChance k := fun _ => rfl
  refine am_R.next ((hp 0).trans rfl) rfl ?_
  refine am_R.next ((hp 1).trans rfl) rfl ?_
  refine am_R.next ((hp 2).trans rfl) rfl ?_
  refine am_R.next ((hp 3).trans rfl) rfl ?_
  refine r_cs (as := [.inr (.inl x2), .inr (.inl 0), .inr (.inl 1)]) (st' := []) ((hp 4).trans rfl) rfl rfl (Nat.le_of_ble_eq_true rfl) (Nat.le_of_ble_eq_true rfl) (am_R.post H (fun v g1 hq => ?_))
  obtain ⟨r2, rfl, hw, H⟩ := hq
  change am_R _ _ _ _ _ [.inl r2] _ _
  refine r_if ((hp 7).trans rfl) (fun c6 => ?_) (fun c6 => ?_)
  · have H := H.1 c6
    refine am_R.next ((hp 15).trans rfl) rfl ?_
    refine am_R.next ((hp 16).trans rfl) rfl ?_
    refine am_R.next ((hp 17).trans rfl) rfl ?_
    refine am_R.next ((hp 18).trans rfl) rfl ?_
    refine r_cs (as := [.inr (.inl x1), .inr (.inl 0), .inr (.inl 7)]) (st' := []) ((hp 21).trans rfl) rfl rfl (Nat.le_of_ble_eq_true rfl) (Nat.le_of_ble_eq_true rfl) (am_R.post H (fun v g3 hq => ?_))
    obtain ⟨r4, rfl, hw, H⟩ := hq
    change am_R _ _ _ _ _ [.inl r4] _ _
    refine r_if ((hp 24).trans rfl) (fun c5 => ?_) (fun c5 => ?_)
    · have H := H.1 c5
      refine am_R.next ((hp 31).trans rfl) rfl ?_
      exact am_R.ret ((hp 33).trans rfl) rfl H
    · have H := H.2 c5
      refine am_R.next ((hp 27).trans rfl) rfl ?_
      refine am_R.next ((hp 28).trans rfl) rfl ?_
      exact am_R.ret ((hp 33).trans rfl) rfl H
  · have H := H.2 (Decidable.not_not.mp c6)
    refine am_R.next ((hp 10).trans rfl) rfl ?_
    refine am_R.next ((hp 12).trans rfl) rfl ?_
    exact am_R.ret ((hp 33).trans rfl) rfl H
theorem w_M_chance_0 {scr : Nat × (Nat → Int)} {d : Nat} {h : am_H} {Q : Option am_V → am_H → Prop} {x1 x2 : Int} (hs : am_sc scr) (hw : wf h) (H : ∀ h1 : am_H, h1 = am_put h 109 0 0 → (am_R (am_prog scr) d f_M_noChance 0 [some (.inr (.inr ((109 : Nat) : Int))), some (.inl x1), some (.inl x2)] [] h1 (fun v g2 => ∃ r3 : Int, v = some (.inl r3) ∧ wf g2 ∧ ((r3 = 0 → (am_R (am_prog scr) d f_M_laysLikely 0 [some (.inr (.inr ((109 : Nat) : Int))), some (.inl x1), none, none, none] [] g2 (fun v g4 => v = none ∧ wf g4 ∧ (am_R (am_prog scr) (d + 1) f_M_chance 29 [some (.inr (.inr ((109 : Nat) : Int))), some (.inl x1), some (.inl x2), some (.inl r3), some (.inr (.inl 0)), none, some (.inl 0)] [] g4 Q)))) ∧ (¬ (r3 = 0) → (Q (some (.inl r3)) g2)))))) : am_R (am_prog scr) (d + 1) f_M_chance 0 [some (.inr (.inr ((109 : Nat) : Int))), some (.inl x1), some (.inl x2), none, none, none, none] [] h Q := by
  have hp : ∀ k, (am_prog scr).1 f_M_chance k = c_M_chance k := fun _ => rfl
  refine am_R.next ((hp 0).trans rfl) rfl ?_
  refine am_R.next ((hp 1).trans rfl) rfl ?_
  obtain ⟨h1, eh1⟩ : ∃ z : am_H, z = am_put h 109 0 0 := ⟨_, rfl⟩
  have H := H h1 eh1
  refine r_putI ((hp 2).trans rfl) (hw.o (i := 109) (by decide) rfl) ?_
  have hw : wf h1 := by rw [eh1]; exact hw.put np_109_0
  change am_R _ _ _ _ _ _ (am_put h 109 0 0) _
  rw [← eh1]
  refine am_R.next ((hp 5).trans rfl) rfl ?_
  refine am_R.next ((hp 6).trans rfl) rfl ?_
  refine am_R.next ((hp 7).trans rfl) rfl ?_
  refine r_cv (bs := [.inl x1, .inl x2]) (st' := []) ((hp 8).trans rfl) (hw.o (i := 109) (by decide) rfl) rfl rfl (Nat.le_of_ble_eq_true rfl) (Nat.le_of_ble_eq_true rfl) (am_R.post H (fun v g2 hq => ?_))
  obtain ⟨r3, rfl, hw, H⟩ := hq
  change am_R _ _ _ _ _ [.inl r3] _ _
  refine am_R.next (lv' := [some (.inr (.inr ((109 : Nat) : Int))), some (.inl x1), some (.inl x2), some (.inl r3), none, none, none]) ((hp 11).trans rfl) rfl ?_
  refine am_R.next ((hp 12).trans rfl) rfl ?_
  refine r_if ((hp 13).trans rfl) (fun c5 => ?_) (fun c5 => ?_)
  · have H := H.1 c5
    refine am_R.next ((hp 18).trans rfl) rfl ?_
    refine am_R.next ((hp 19).trans rfl) rfl ?_
    refine r_cv (bs := [.inl x1]) (st' := []) ((hp 20).trans rfl) (hw.o (i := 109) (by decide) rfl) rfl rfl (Nat.le_of_ble_eq_true rfl) (Nat.le_of_ble_eq_true rfl) (am_R.post H (fun v g4 hq => ?_))
    obtain ⟨rfl, hw, H⟩ := hq
    change am_R _ _ _ _ _ [] _ _
    refine am_R.next ((hp 23).trans rfl) rfl ?_
    refine am_R.next (lv' := [some (.inr (.inr ((109 : Nat) : Int))), some (.inl x1), some (.inl x2), some (.inl r3), some (.inr (.inl 0)), none, none]) ((hp 24).trans rfl) rfl ?_
    refine am_R.next ((hp 26).trans rfl) rfl ?_
    refine am_R.next (lv' := [some (.inr (.inr ((109 : Nat) : Int))), some (.inl x1), some (.inl x2), some (.inl r3), some (.inr (.inl 0)), none, some (.inl 0)]) ((hp 27).trans rfl) rfl ?_
    exact H
  · have H := H.2 c5
    refine am_R.next ((hp 16).trans rfl) rfl ?_
    exact am_R.ret ((hp 17).trans rfl) rfl H
theorem w_M_chance_29 {scr : Nat × (Nat → Int)} {d : Nat} {h : am_H} {Q : Option am_V → am_H → Prop} {x1 x2 x3 x4 x6 : Int} (hs : am_sc scr) (hw : wf h) (H : (¬ (x6 < 360) → (am_R (am_prog scr) d f_M_wholeOf 0 [some (.inl x1), none, none, none] [] h (fun v g1 => ∃ r2 : Int, v = some (.inr (.inl r2)) ∧ wf g1 ∧ (am_R (am_prog scr) d f_M_part 0 [some (.inr (.inl x4)), none, some (.inr (.inl r2)), none, some (.inl x2)] [] g1 (fun v g3 => ∃ r4 : Int, v = some (.inl r4) ∧ wf g3 ∧ (Q (some (.inl r4)) g3)))))) ∧ (x6 < 360 → (am_R (am_prog scr) d f_M_hasEnded 0 [some (.inr (.inr ((109 : Nat) : Int))), some (.inl x6)] [] h (fun v g5 => ∃ r6 : Int, v = some (.inl r6) ∧ wf g5 ∧ ((r6 = 0 → (∀ y7 : Int, y7 = am_W (x4 + 0) → (∀ y8 : Int, y8 = am_w (x6 + 1) → (am_R (am_prog scr) (d + 1) f_M_chance 29 [some (.inr (.inr ((109 : Nat) : Int))), some (.inl x1), some (.inl x2), some (.inl x3), some (.inr (.inl y7)), none, some (.inl y8)] [] g5 Q)))) ∧ (¬ (r6 = 0) → ((0 ≤ x6 ∧ x6 < 360) ∧ (∀ y10 : Int, y10 = am_W (x4 + (g5.2.2.2 124 x6.toNat)) → (∀ y11 : Int, y11 = am_w (x6 + 1) → (am_R (am_prog scr) (d + 1) f_M_chance 29 [some (.inr (.inr ((109 : Nat) : Int))), some (.inl x1), some (.inl x2), some (.inl x3), some (.inr (.inl y10)), none, some (.inl y11)] [] g5 Q)))))))))) : am_R (am_prog scr) (d + 1) f_M_chance 29 [some (.inr (.inr ((109 : Nat) : Int))), some (.inl x1), some (.inl x2), some (.inl x3), some (.inr (.inl x4)), none, some (.inl x6)] [] h Q := by
  have hp : ∀ k, (am_prog scr).1 f_M_chance k = c_M_chance k := fun _ => rfl
  refine am_R.next ((hp 29).trans rfl) rfl ?_
  refine am_R.next ((hp 31).trans rfl) rfl ?_
  refine r_ic ((hp 34).trans rfl) (fun c13 => ?_) (fun c13 => ?_)
  · have H := H.1 c13
    refine am_R.next ((hp 68).trans rfl) rfl ?_
    refine am_R.next ((hp 70).trans rfl) rfl ?_
    refine r_cs (as := [.inl x1]) (st' := [.inr (.inl x4)]) ((hp 71).trans rfl) rfl rfl (Nat.le_of_ble_eq_true rfl) (Nat.le_of_ble_eq_true rfl) (am_R.post H (fun v g1 hq => ?_))
    obtain ⟨r2, rfl, hw, H⟩ := hq
    change am_R _ _ _ _ _ [.inr (.inl r2), .inr (.inl x4)] _ _
    refine am_R.next ((hp 74).trans rfl) rfl ?_
    refine r_cs (as := [.inr (.inl x4), .inr (.inl r2), .inl x2]) (st' := []) ((hp 75).trans rfl) rfl rfl (Nat.le_of_ble_eq_true rfl) (Nat.le_of_ble_eq_true rfl) (am_R.post H (fun v g3 hq => ?_))
    obtain ⟨r4, rfl, hw, H⟩ := hq
    change am_R _ _ _ _ _ [.inl r4] _ _
    exact am_R.ret ((hp 78).trans rfl) rfl H
  · have H := H.2 (Decidable.not_not.mp c13)
    refine am_R.next ((hp 37).trans rfl) rfl ?_
    refine am_R.next ((hp 39).trans rfl) rfl ?_
    refine am_R.next ((hp 40).trans rfl) rfl ?_
    refine r_cv (bs := [.inl x6]) (st' := [.inr (.inl x4)]) ((hp 42).trans rfl) (hw.o (i := 109) (by decide) rfl) rfl rfl (Nat.le_of_ble_eq_true rfl) (Nat.le_of_ble_eq_true rfl) (am_R.post H (fun v g5 hq => ?_))
    obtain ⟨r6, rfl, hw, H⟩ := hq
    change am_R _ _ _ _ _ [.inl r6, .inr (.inl x4)] _ _
    refine r_if ((hp 45).trans rfl) (fun c12 => ?_) (fun c12 => ?_)
    · have H := H.1 c12
      refine am_R.next ((hp 58).trans rfl) rfl ?_
      refine am_R.next ((hp 59).trans rfl) rfl ?_
      obtain ⟨y7, ey7⟩ : ∃ z : Int, z = am_W (x4 + 0) := ⟨_, rfl⟩
      have H := H y7 ey7
      refine am_R.next (lv' := [some (.inr (.inr ((109 : Nat) : Int))), some (.inl x1), some (.inl x2), some (.inl x3), some (.inr (.inl y7)), none, some (.inl x6)]) (st' := []) (h' := g5) (pc' := 62) ((hp 60).trans rfl) (by rw [ey7]; rfl) ?_
      obtain ⟨y8, ey8⟩ : ∃ z : Int, z = am_w (x6 + 1) := ⟨_, rfl⟩
      have H := H y8 ey8
      refine am_R.next (lv' := [some (.inr (.inr ((109 : Nat) : Int))), some (.inl x1), some (.inl x2), some (.inl x3), some (.inr (.inl y7)), none, some (.inl y8)]) (st' := []) (h' := g5) (pc' := 65) ((hp 62).trans rfl) (by rw [ey8]; rfl) ?_
      refine am_R.next ((hp 65).trans rfl) rfl ?_
      exact H
    · have H := H.2 c12
      refine am_R.next ((hp 48).trans rfl) rfl ?_
      refine r_getR ((hp 49).trans rfl) (hw.o (i := 109) (by decide) rfl) (hw.r wr_109_30) ?_
      refine am_R.next ((hp 52).trans rfl) rfl ?_
      obtain ⟨c9, H⟩ := H
      refine r_lald ((hp 54).trans rfl) (hw.a (i := 124) (by decide) rfl c9.1 c9.2) ?_
      refine am_R.next ((hp 55).trans rfl) rfl ?_
      refine am_R.next ((hp 59).trans rfl) rfl ?_
      obtain ⟨y10, ey10⟩ : ∃ z : Int, z = am_W (x4 + (g5.2.2.2 124 x6.toNat)) := ⟨_, rfl⟩
      have H := H y10 ey10
      refine am_R.next (lv' := [some (.inr (.inr ((109 : Nat) : Int))), some (.inl x1), some (.inl x2), some (.inl x3), some (.inr (.inl y10)), none, some (.inl x6)]) (st' := []) (h' := g5) (pc' := 62) ((hp 60).trans rfl) (by rw [ey10]; rfl) ?_
      obtain ⟨y11, ey11⟩ : ∃ z : Int, z = am_w (x6 + 1) := ⟨_, rfl⟩
      have H := H y11 ey11
      refine am_R.next (lv' := [some (.inr (.inr ((109 : Nat) : Int))), some (.inl x1), some (.inl x2), some (.inl x3), some (.inr (.inl y10)), none, some (.inl y11)]) (st' := []) (h' := g5) (pc' := 65) ((hp 62).trans rfl) (by rw [ey11]; rfl) ?_
      refine am_R.next ((hp 65).trans rfl) rfl ?_
      exact H
theorem w_M_mean_0 {scr : Nat × (Nat → Int)} {d : Nat} {h : am_H} {Q : Option am_V → am_H → Prop} {x1 x2 : Int} (hs : am_sc scr) (hw : wf h) (H : ∀ h1 : am_H, h1 = am_put h 109 0 0 → (am_R (am_prog scr) d f_M_noChance 0 [some (.inr (.inr ((109 : Nat) : Int))), some (.inl x1), some (.inl x2)] [] h1 (fun v g2 => ∃ r3 : Int, v = some (.inl r3) ∧ wf g2 ∧ ((r3 = 0 → (am_R (am_prog scr) d f_M_laysLikely 0 [some (.inr (.inr ((109 : Nat) : Int))), some (.inl x1), none, none, none] [] g2 (fun v g4 => v = none ∧ wf g4 ∧ (am_R (am_prog scr) (d + 1) f_M_mean 29 [some (.inr (.inr ((109 : Nat) : Int))), some (.inl x1), some (.inl x2), some (.inl r3), some (.inr (.inl 0)), none, some (.inl 0)] [] g4 Q)))) ∧ (¬ (r3 = 0) → (Q (some (.inl r3)) g2)))))) : am_R (am_prog scr) (d + 1) f_M_mean 0 [some (.inr (.inr ((109 : Nat) : Int))), some (.inl x1), some (.inl x2), none, none, none, none] [] h Q := by
  have hp : ∀ k, (am_prog scr).1 f_M_mean k = c_M_mean k := fun _ => rfl
  refine am_R.next ((hp 0).trans rfl) rfl ?_
  refine am_R.next ((hp 1).trans rfl) rfl ?_
  obtain ⟨h1, eh1⟩ : ∃ z : am_H, z = am_put h 109 0 0 := ⟨_, rfl⟩
  have H := H h1 eh1
  refine r_putI ((hp 2).trans rfl) (hw.o (i := 109) (by decide) rfl) ?_
  have hw : wf h1 := by rw [eh1]; exact hw.put np_109_0
  change am_R _ _ _ _ _ _ (am_put h 109 0 0) _
  rw [← eh1]
  refine am_R.next ((hp 5).trans rfl) rfl ?_
  refine am_R.next ((hp 6).trans rfl) rfl ?_
  refine am_R.next ((hp 7).trans rfl) rfl ?_
  refine r_cv (bs := [.inl x1, .inl x2]) (st' := []) ((hp 8).trans rfl) (hw.o (i := 109) (by decide) rfl) rfl rfl (Nat.le_of_ble_eq_true rfl) (Nat.le_of_ble_eq_true rfl) (am_R.post H (fun v g2 hq => ?_))
  obtain ⟨r3, rfl, hw, H⟩ := hq
  change am_R _ _ _ _ _ [.inl r3] _ _
  refine am_R.next (lv' := [some (.inr (.inr ((109 : Nat) : Int))), some (.inl x1), some (.inl x2), some (.inl r3), none, none, none]) ((hp 11).trans rfl) rfl ?_
  refine am_R.next ((hp 12).trans rfl) rfl ?_
  refine r_if ((hp 13).trans rfl) (fun c5 => ?_) (fun c5 => ?_)
  · have H := H.1 c5
    refine am_R.next ((hp 18).trans rfl) rfl ?_
    refine am_R.next ((hp 19).trans rfl) rfl ?_
    refine r_cv (bs := [.inl x1]) (st' := []) ((hp 20).trans rfl) (hw.o (i := 109) (by decide) rfl) rfl rfl (Nat.le_of_ble_eq_true rfl) (Nat.le_of_ble_eq_true rfl) (am_R.post H (fun v g4 hq => ?_))
    obtain ⟨rfl, hw, H⟩ := hq
    change am_R _ _ _ _ _ [] _ _
    refine am_R.next ((hp 23).trans rfl) rfl ?_
    refine am_R.next (lv' := [some (.inr (.inr ((109 : Nat) : Int))), some (.inl x1), some (.inl x2), some (.inl r3), some (.inr (.inl 0)), none, none]) ((hp 24).trans rfl) rfl ?_
    refine am_R.next ((hp 26).trans rfl) rfl ?_
    refine am_R.next (lv' := [some (.inr (.inr ((109 : Nat) : Int))), some (.inl x1), some (.inl x2), some (.inl r3), some (.inr (.inl 0)), none, some (.inl 0)]) ((hp 27).trans rfl) rfl ?_
    exact H
  · have H := H.2 c5
    refine am_R.next ((hp 16).trans rfl) rfl ?_
    exact am_R.ret ((hp 17).trans rfl) rfl H
theorem w_M_mean_29 {scr : Nat × (Nat → Int)} {d : Nat} {h : am_H} {Q : Option am_V → am_H → Prop} {x1 x2 x3 x4 x6 : Int} (hs : am_sc scr) (hw : wf h) (H : (¬ (x6 < 360) → (am_R (am_prog scr) d f_M_wholeOf 0 [some (.inl x1), none, none, none] [] h (fun v g1 => ∃ r2 : Int, v = some (.inr (.inl r2)) ∧ wf g1 ∧ (am_R (am_prog scr) d f_M_part 0 [some (.inr (.inl x4)), none, some (.inr (.inl r2)), none, some (.inl x2)] [] g1 (fun v g3 => ∃ r4 : Int, v = some (.inl r4) ∧ wf g3 ∧ (Q (some (.inl r4)) g3)))))) ∧ (x6 < 360 → ((0 ≤ x6 ∧ x6 < 360) ∧ (am_R (am_prog scr) d f_M_actIn 0 [some (.inl x6)] [] h (fun v g6 => ∃ r7 : Int, v = some (.inl r7) ∧ wf g6 ∧ (∀ y8 : Int, y8 = am_W (x4 + (am_W ((h.2.2.2 124 x6.toNat) * r7))) → (∀ y9 : Int, y9 = am_w (x6 + 1) → (am_R (am_prog scr) (d + 1) f_M_mean 29 [some (.inr (.inr ((109 : Nat) : Int))), some (.inl x1), some (.inl x2), some (.inl x3), some (.inr (.inl y8)), none, some (.inl y9)] [] g6 Q)))))))) : am_R (am_prog scr) (d + 1) f_M_mean 29 [some (.inr (.inr ((109 : Nat) : Int))), some (.inl x1), some (.inl x2), some (.inl x3), some (.inr (.inl x4)), none, some (.inl x6)] [] h Q := by
  have hp : ∀ k, (am_prog scr).1 f_M_mean k = c_M_mean k := fun _ => rfl
  refine am_R.next ((hp 29).trans rfl) rfl ?_
  refine am_R.next ((hp 31).trans rfl) rfl ?_
  refine r_ic ((hp 34).trans rfl) (fun c10 => ?_) (fun c10 => ?_)
  · have H := H.1 c10
    refine am_R.next ((hp 62).trans rfl) rfl ?_
    refine am_R.next ((hp 64).trans rfl) rfl ?_
    refine r_cs (as := [.inl x1]) (st' := [.inr (.inl x4)]) ((hp 65).trans rfl) rfl rfl (Nat.le_of_ble_eq_true rfl) (Nat.le_of_ble_eq_true rfl) (am_R.post H (fun v g1 hq => ?_))
    obtain ⟨r2, rfl, hw, H⟩ := hq
    change am_R _ _ _ _ _ [.inr (.inl r2), .inr (.inl x4)] _ _
    refine am_R.next ((hp 68).trans rfl) rfl ?_
    refine r_cs (as := [.inr (.inl x4), .inr (.inl r2), .inl x2]) (st' := []) ((hp 69).trans rfl) rfl rfl (Nat.le_of_ble_eq_true rfl) (Nat.le_of_ble_eq_true rfl) (am_R.post H (fun v g3 hq => ?_))
    obtain ⟨r4, rfl, hw, H⟩ := hq
    change am_R _ _ _ _ _ [.inl r4] _ _
    exact am_R.ret ((hp 72).trans rfl) rfl H
  · have H := H.2 (Decidable.not_not.mp c10)
    refine am_R.next ((hp 37).trans rfl) rfl ?_
    refine am_R.next ((hp 39).trans rfl) rfl ?_
    refine r_getR ((hp 40).trans rfl) (hw.o (i := 109) (by decide) rfl) (hw.r wr_109_30) ?_
    refine am_R.next ((hp 43).trans rfl) rfl ?_
    obtain ⟨c5, H⟩ := H
    refine r_lald ((hp 45).trans rfl) (hw.a (i := 124) (by decide) rfl c5.1 c5.2) ?_
    refine am_R.next ((hp 46).trans rfl) rfl ?_
    refine r_cs (as := [.inl x6]) (st' := [.inr (.inl (h.2.2.2 124 x6.toNat)), .inr (.inl x4)]) ((hp 48).trans rfl) rfl rfl (Nat.le_of_ble_eq_true rfl) (Nat.le_of_ble_eq_true rfl) (am_R.post H (fun v g6 hq => ?_))
    obtain ⟨r7, rfl, hw, H⟩ := hq
    change am_R _ _ _ _ _ [.inl r7, .inr (.inl (h.2.2.2 124 x6.toNat)), .inr (.inl x4)] _ _
    refine am_R.next ((hp 51).trans rfl) rfl ?_
    refine am_R.next ((hp 52).trans rfl) rfl ?_
    refine am_R.next ((hp 53).trans rfl) rfl ?_
    obtain ⟨y8, ey8⟩ : ∃ z : Int, z = am_W (x4 + (am_W ((h.2.2.2 124 x6.toNat) * r7))) := ⟨_, rfl⟩
    have H := H y8 ey8
    refine am_R.next (lv' := [some (.inr (.inr ((109 : Nat) : Int))), some (.inl x1), some (.inl x2), some (.inl x3), some (.inr (.inl y8)), none, some (.inl x6)]) (st' := []) (h' := g6) (pc' := 56) ((hp 54).trans rfl) (by rw [ey8]; rfl) ?_
    obtain ⟨y9, ey9⟩ : ∃ z : Int, z = am_w (x6 + 1) := ⟨_, rfl⟩
    have H := H y9 ey9
    refine am_R.next (lv' := [some (.inr (.inr ((109 : Nat) : Int))), some (.inl x1), some (.inl x2), some (.inl x3), some (.inr (.inl y8)), none, some (.inl y9)]) (st' := []) (h' := g6) (pc' := 59) ((hp 56).trans rfl) (by rw [ey9]; rfl) ?_
    refine am_R.next ((hp 59).trans rfl) rfl ?_
    exact H
theorem w_M_cut_0 {scr : Nat × (Nat → Int)} {d : Nat} {h : am_H} {Q : Option am_V → am_H → Prop} {x0 x2 : Int} (hs : am_sc scr) (hw : wf h) (H : (¬ (x2 = 0) → ((¬ (x2 = 1) → ((¬ (x2 = 2) → (Q (some (.inr (.inl x0))) h)) ∧ (x2 = 2 → (Q (some (.inr (.inl (am_w x0)))) h)))) ∧ (x2 = 1 → (Q (some (.inr (.inl (Int.bmod (am_w x0) 65536)))) h)))) ∧ (x2 = 0 → (Q (some (.inr (.inl (Int.bmod (am_w x0) 256)))) h))) : am_R (am_prog scr) d f_M_cut 0 [some (.inr (.inl x0)), none, some (.inl x2)] [] h Q := by
  have hp : ∀ k, (am_prog scr).1 f_M_cut k = c_M_cut k := fun _ => rfl
  refine am_R.next ((hp 0).trans rfl) rfl ?_
  refine r_if ((hp 1).trans rfl) (fun c3 => ?_) (fun c3 => ?_)
  · have H := H.1 c3
    refine am_R.next ((hp 11).trans rfl) rfl ?_
    refine am_R.next ((hp 12).trans rfl) rfl ?_
    refine r_ic ((hp 13).trans rfl) (fun c2 => ?_) (fun c2 => ?_)
    · have H := H.1 c2
      refine am_R.next ((hp 23).trans rfl) rfl ?_
      refine am_R.next ((hp 24).trans rfl) rfl ?_
      refine r_ic ((hp 25).trans rfl) (fun c1 => ?_) (fun c1 => ?_)
      · have H := H.1 c1
        refine am_R.next ((hp 34).trans rfl) rfl ?_
        exact am_R.ret ((hp 35).trans rfl) rfl H
      · have H := H.2 (Decidable.not_not.mp c1)
        refine am_R.next ((hp 28).trans rfl) rfl ?_
        refine am_R.next ((hp 29).trans rfl) rfl ?_
        refine am_R.next ((hp 30).trans rfl) rfl ?_
        refine am_R.next ((hp 31).trans rfl) rfl ?_
        exact am_R.ret ((hp 35).trans rfl) rfl H
    · have H := H.2 (Decidable.not_not.mp c2)
      refine am_R.next ((hp 16).trans rfl) rfl ?_
      refine am_R.next ((hp 17).trans rfl) rfl ?_
      refine am_R.next ((hp 18).trans rfl) rfl ?_
      refine am_R.next ((hp 19).trans rfl) rfl ?_
      refine am_R.next ((hp 20).trans rfl) rfl ?_
      exact am_R.ret ((hp 35).trans rfl) rfl H
  · have H := H.2 (Decidable.not_not.mp c3)
    refine am_R.next ((hp 4).trans rfl) rfl ?_
    refine am_R.next ((hp 5).trans rfl) rfl ?_
    refine am_R.next ((hp 6).trans rfl) rfl ?_
    refine am_R.next ((hp 7).trans rfl) rfl ?_
    refine am_R.next ((hp 8).trans rfl) rfl ?_
    exact am_R.ret ((hp 35).trans rfl) rfl H
theorem w_M_numbers_0 {scr : Nat × (Nat → Int)} {d : Nat} {h : am_H} {Q : Option am_V → am_H → Prop} {x1 x2 x3 : Int} (hs : am_sc scr) (hw : wf h) (H : ∀ h1 : am_H, h1 = am_put h 109 0 0 → (am_R (am_prog scr) d f_M_within 0 [some (.inr (.inl x1)), none, some (.inr (.inl 0)), none, some (.inr (.inl 3)), none] [] h1 (fun v g2 => ∃ r3 : Int, v = some (.inl r3) ∧ wf g2 ∧ ((r3 = 0 → (Q (some (.inl (-2))) g2)) ∧ (¬ (r3 = 0) → (am_R (am_prog scr) d f_M_within 0 [some (.inr (.inl x2)), none, some (.inr (.inl 0)), none, some (.inr (.inl 3)), none] [] g2 (fun v g4 => ∃ r5 : Int, v = some (.inl r5) ∧ wf g4 ∧ ((¬ (r5 = 0) → (am_R (am_prog scr) d f_M_within 0 [some (.inr (.inl x3)), none, some (.inr (.inl 0)), none, some (.inr (.inl 40)), none] [] g4 (fun v g6 => ∃ r7 : Int, v = some (.inl r7) ∧ wf g6 ∧ ((¬ (r7 = 0) → (((0 ≤ x1 ∧ x1 < 4)) ∧ (∀ h9 : am_H, h9 = am_put g6 130 x1.toNat x2 → (((0 ≤ x1 ∧ x1 < 4)) ∧ (∀ h11 : am_H, h11 = am_put h9 131 x1.toNat x3 → (am_R (am_prog scr) (d + 1) f_M_numbers 64 [some (.inr (.inr ((109 : Nat) : Int))), some (.inl x1), some (.inl x2), some (.inl x3), some (.inl 0)] [] h11 Q)))))) ∧ (r7 = 0 → (Q (some (.inl (-3))) g6)))))) ∧ (r5 = 0 → (Q (some (.inl (-2))) g4)))))))))) : am_R (am_prog scr) (d + 1) f_M_numbers 0 [some (.inr (.inr ((109 : Nat) : Int))), some (.inl x1), some (.inl x2), some (.inl x3), none] [] h Q := by
  have hp : ∀ k, (am_prog scr).1 f_M_numbers k = c_M_numbers k := fun _ => rfl
  refine am_R.next ((hp 0).trans rfl) rfl ?_
  refine am_R.next ((hp 1).trans rfl) rfl ?_
  obtain ⟨h1, eh1⟩ : ∃ z : am_H, z = am_put h 109 0 0 := ⟨_, rfl⟩
  have H := H h1 eh1
  refine r_putI ((hp 2).trans rfl) (hw.o (i := 109) (by decide) rfl) ?_
  have hw : wf h1 := by rw [eh1]; exact hw.put np_109_0
  change am_R _ _ _ _ _ _ (am_put h 109 0 0) _
  rw [← eh1]
  refine am_R.next ((hp 5).trans rfl) rfl ?_
  refine am_R.next ((hp 6).trans rfl) rfl ?_
  refine am_R.next ((hp 7).trans rfl) rfl ?_
  refine am_R.next ((hp 8).trans rfl) rfl ?_
  refine r_cs (as := [.inr (.inl x1), .inr (.inl 0), .inr (.inl 3)]) (st' := []) ((hp 11).trans rfl) rfl rfl (Nat.le_of_ble_eq_true rfl) (Nat.le_of_ble_eq_true rfl) (am_R.post H (fun v g2 hq => ?_))
  obtain ⟨r3, rfl, hw, H⟩ := hq
  change am_R _ _ _ _ _ [.inl r3] _ _
  refine r_if ((hp 14).trans rfl) (fun c14 => ?_) (fun c14 => ?_)
  · have H := H.1 c14
    refine am_R.next ((hp 29).trans rfl) rfl ?_
    exact am_R.ret ((hp 31).trans rfl) rfl H
  · have H := H.2 c14
    refine am_R.next ((hp 17).trans rfl) rfl ?_
    refine am_R.next ((hp 18).trans rfl) rfl ?_
    refine am_R.next ((hp 19).trans rfl) rfl ?_
    refine am_R.next ((hp 20).trans rfl) rfl ?_
    refine r_cs (as := [.inr (.inl x2), .inr (.inl 0), .inr (.inl 3)]) (st' := []) ((hp 23).trans rfl) rfl rfl (Nat.le_of_ble_eq_true rfl) (Nat.le_of_ble_eq_true rfl) (am_R.post H (fun v g4 hq => ?_))
    obtain ⟨r5, rfl, hw, H⟩ := hq
    change am_R _ _ _ _ _ [.inl r5] _ _
    refine r_if ((hp 26).trans rfl) (fun c13 => ?_) (fun c13 => ?_)
    · have H := H.1 c13
      refine am_R.next ((hp 32).trans rfl) rfl ?_
      refine am_R.next ((hp 33).trans rfl) rfl ?_
      refine am_R.next ((hp 34).trans rfl) rfl ?_
      refine am_R.next ((hp 35).trans rfl) rfl ?_
      refine r_cs (as := [.inr (.inl x3), .inr (.inl 0), .inr (.inl 40)]) (st' := []) ((hp 38).trans rfl) rfl rfl (Nat.le_of_ble_eq_true rfl) (Nat.le_of_ble_eq_true rfl) (am_R.post H (fun v g6 hq => ?_))
      obtain ⟨r7, rfl, hw, H⟩ := hq
      change am_R _ _ _ _ _ [.inl r7] _ _
      refine r_if ((hp 41).trans rfl) (fun c12 => ?_) (fun c12 => ?_)
      · have H := H.1 c12
        refine am_R.next ((hp 47).trans rfl) rfl ?_
        refine r_getR ((hp 48).trans rfl) (hw.o (i := 109) (by decide) rfl) (hw.r wr_109_37) ?_
        refine am_R.next ((hp 51).trans rfl) rfl ?_
        refine am_R.next ((hp 52).trans rfl) rfl ?_
        obtain ⟨c8, H⟩ := H
        obtain ⟨h9, eh9⟩ : ∃ z : am_H, z = am_put g6 130 x1.toNat x2 := ⟨_, rfl⟩
        have H := H h9 eh9
        refine r_iast ((hp 53).trans rfl) (hw.a (i := 130) (by decide) rfl c8.1 c8.2) ?_
        have hw : wf h9 := by rw [eh9]; exact hw.pa na_130
        change am_R _ _ _ _ _ _ (am_put g6 130 x1.toNat x2) _
        rw [← eh9]
        refine am_R.next ((hp 54).trans rfl) rfl ?_
        refine r_getR ((hp 55).trans rfl) (hw.o (i := 109) (by decide) rfl) (hw.r wr_109_38) ?_
        refine am_R.next ((hp 58).trans rfl) rfl ?_
        refine am_R.next ((hp 59).trans rfl) rfl ?_
        obtain ⟨c10, H⟩ := H
        obtain ⟨h11, eh11⟩ : ∃ z : am_H, z = am_put h9 131 x1.toNat x3 := ⟨_, rfl⟩
        have H := H h11 eh11
        refine r_iast ((hp 60).trans rfl) (hw.a (i := 131) (by decide) rfl c10.1 c10.2) ?_
        have hw : wf h11 := by rw [eh11]; exact hw.pa na_131
        change am_R _ _ _ _ _ _ (am_put h9 131 x1.toNat x3) _
        rw [← eh11]
        refine am_R.next ((hp 61).trans rfl) rfl ?_
        refine am_R.next (lv' := [some (.inr (.inr ((109 : Nat) : Int))), some (.inl x1), some (.inl x2), some (.inl x3), some (.inl 0)]) ((hp 62).trans rfl) rfl ?_
        exact H
      · have H := H.2 (Decidable.not_not.mp c12)
        refine am_R.next ((hp 44).trans rfl) rfl ?_
        exact am_R.ret ((hp 46).trans rfl) rfl H
    · have H := H.2 (Decidable.not_not.mp c13)
      refine am_R.next ((hp 29).trans rfl) rfl ?_
      exact am_R.ret ((hp 31).trans rfl) rfl H
theorem w_M_numbers_64 {scr : Nat × (Nat → Int)} {d : Nat} {h : am_H} {Q : Option am_V → am_H → Prop} {x1 x2 x3 x4 : Int} (hs : am_sc scr) (hw : wf h) (H : (¬ (x4 < x3) → (Q (some (.inl 0)) h)) ∧ (x4 < x3 → (((0 ≤ (am_w ((am_w (40 * x1)) + x4)) ∧ (am_w ((am_w (40 * x1)) + x4)) < 160)) ∧ (∀ h2 : am_H, h2 = am_put h 132 ((am_w ((am_w (40 * x1)) + x4)).toNat) 0 → (∀ y3 : Int, y3 = am_w (x4 + 1) → (am_R (am_prog scr) (d + 1) f_M_numbers 64 [some (.inr (.inr ((109 : Nat) : Int))), some (.inl x1), some (.inl x2), some (.inl x3), some (.inl y3)] [] h2 Q)))))) : am_R (am_prog scr) (d + 1) f_M_numbers 64 [some (.inr (.inr ((109 : Nat) : Int))), some (.inl x1), some (.inl x2), some (.inl x3), some (.inl x4)] [] h Q := by
  have hp : ∀ k, (am_prog scr).1 f_M_numbers k = c_M_numbers k := fun _ => rfl
  refine am_R.next ((hp 64).trans rfl) rfl ?_
  refine am_R.next ((hp 66).trans rfl) rfl ?_
  refine r_ic ((hp 67).trans rfl) (fun c4 => ?_) (fun c4 => ?_)
  · have H := H.1 c4
    refine am_R.next ((hp 89).trans rfl) rfl ?_
    exact am_R.ret ((hp 90).trans rfl) rfl H
  · have H := H.2 (Decidable.not_not.mp c4)
    refine am_R.next ((hp 70).trans rfl) rfl ?_
    refine r_getR ((hp 71).trans rfl) (hw.o (i := 109) (by decide) rfl) (hw.r wr_109_39) ?_
    refine am_R.next ((hp 74).trans rfl) rfl ?_
    refine am_R.next ((hp 76).trans rfl) rfl ?_
    refine am_R.next ((hp 77).trans rfl) rfl ?_
    refine am_R.next ((hp 78).trans rfl) rfl ?_
    refine am_R.next ((hp 80).trans rfl) rfl ?_
    refine am_R.next ((hp 81).trans rfl) rfl ?_
    obtain ⟨c1, H⟩ := H
    obtain ⟨h2, eh2⟩ : ∃ z : am_H, z = am_put h 132 ((am_w ((am_w (40 * x1)) + x4)).toNat) 0 := ⟨_, rfl⟩
    have H := H h2 eh2
    refine r_last ((hp 82).trans rfl) (hw.a (i := 132) (by decide) rfl c1.1 c1.2) ?_
    have hw : wf h2 := by rw [eh2]; exact hw.pa na_132
    change am_R _ _ _ _ _ _ (am_put h 132 ((am_w ((am_w (40 * x1)) + x4)).toNat) 0) _
    rw [← eh2]
    obtain ⟨y3, ey3⟩ : ∃ z : Int, z = am_w (x4 + 1) := ⟨_, rfl⟩
    have H := H y3 ey3
    refine am_R.next (lv' := [some (.inr (.inr ((109 : Nat) : Int))), some (.inl x1), some (.inl x2), some (.inl x3), some (.inl y3)]) (st' := []) (h' := h2) (pc' := 86) ((hp 83).trans rfl) (by rw [ey3]; rfl) ?_
    refine am_R.next ((hp 86).trans rfl) rfl ?_
    exact H
theorem w_M_write_0 {scr : Nat × (Nat → Int)} {d : Nat} {h : am_H} {Q : Option am_V → am_H → Prop} {x1 x2 x3 : Int} (hs : am_sc scr) (hw : wf h) (H : ∀ h1 : am_H, h1 = am_put h 109 0 0 → (am_R (am_prog scr) d f_M_noTray 0 [some (.inr (.inr ((109 : Nat) : Int))), some (.inl x1)] [] h1 (fun v g2 => ∃ r3 : Int, v = some (.inl r3) ∧ wf g2 ∧ ((r3 = 0 → ((0 ≤ x1 ∧ x1 < 4) ∧ (am_R (am_prog scr) d f_M_within 0 [some (.inr (.inl x2)), none, some (.inr (.inl 0)), none, some (.inr (.inl (am_w ((g2.2.2.2 131 x1.toNat) - 1)))), none] [] g2 (fun v g5 => ∃ r6 : Int, v = some (.inl r6) ∧ wf g5 ∧ ((¬ (r6 = 0) → ((0 ≤ x1 ∧ x1 < 4) ∧ (am_R (am_prog scr) d f_M_cut 0 [some (.inr (.inl x3)), none, some (.inl (g5.2.2.2 130 x1.toNat))] [] g5 (fun v g8 => ∃ r9 : Int, v = some (.inr (.inl r9)) ∧ wf g8 ∧ (((0 ≤ (am_w ((am_w (40 * x1)) + x2)) ∧ (am_w ((am_w (40 * x1)) + x2)) < 160)) ∧ (∀ h11 : am_H, h11 = am_put g8 132 ((am_w ((am_w (40 * x1)) + x2)).toNat) r9 → ((0 ≤ (am_w ((am_w (40 * x1)) + x2)) ∧ (am_w ((am_w (40 * x1)) + x2)) < 160) ∧ (Q (some (.inr (.inl (h11.2.2.2 132 ((am_w ((am_w (40 * x1)) + x2)).toNat))))) h11)))))))) ∧ (r6 = 0 → (Q (some (.inr (.inl (-7)))) g5))))))) ∧ (¬ (r3 = 0) → (Q (some (.inr (.inl r3))) g2)))))) : am_R (am_prog scr) (d + 1) f_M_write 0 [some (.inr (.inr ((109 : Nat) : Int))), some (.inl x1), some (.inl x2), some (.inr (.inl x3)), none, none] [] h Q := by
  have hp : ∀ k, (am_prog scr).1 f_M_write k = c_M_write k := fun _ => rfl
  refine am_R.next ((hp 0).trans rfl) rfl ?_
  refine am_R.next ((hp 1).trans rfl) rfl ?_
  obtain ⟨h1, eh1⟩ : ∃ z : am_H, z = am_put h 109 0 0 := ⟨_, rfl⟩
  have H := H h1 eh1
  refine r_putI ((hp 2).trans rfl) (hw.o (i := 109) (by decide) rfl) ?_
  have hw : wf h1 := by rw [eh1]; exact hw.put np_109_0
  change am_R _ _ _ _ _ _ (am_put h 109 0 0) _
  rw [← eh1]
  refine am_R.next ((hp 5).trans rfl) rfl ?_
  refine am_R.next ((hp 6).trans rfl) rfl ?_
  refine r_cv (bs := [.inl x1]) (st' := []) ((hp 7).trans rfl) (hw.o (i := 109) (by decide) rfl) rfl rfl (Nat.le_of_ble_eq_true rfl) (Nat.le_of_ble_eq_true rfl) (am_R.post H (fun v g2 hq => ?_))
  obtain ⟨r3, rfl, hw, H⟩ := hq
  change am_R _ _ _ _ _ [.inl r3] _ _
  refine am_R.next (lv' := [some (.inr (.inr ((109 : Nat) : Int))), some (.inl x1), some (.inl x2), some (.inr (.inl x3)), none, some (.inl r3)]) ((hp 10).trans rfl) rfl ?_
  refine am_R.next ((hp 12).trans rfl) rfl ?_
  refine r_if ((hp 14).trans rfl) (fun c14 => ?_) (fun c14 => ?_)
  · have H := H.1 c14
    refine am_R.next ((hp 21).trans rfl) rfl ?_
    refine am_R.next ((hp 22).trans rfl) rfl ?_
    refine am_R.next ((hp 23).trans rfl) rfl ?_
    refine am_R.next ((hp 24).trans rfl) rfl ?_
    refine r_getR ((hp 25).trans rfl) (hw.o (i := 109) (by decide) rfl) (hw.r wr_109_38) ?_
    refine am_R.next ((hp 28).trans rfl) rfl ?_
    obtain ⟨c4, H⟩ := H
    refine r_iald ((hp 29).trans rfl) (hw.a (i := 131) (by decide) rfl c4.1 c4.2) ?_
    refine am_R.next ((hp 30).trans rfl) rfl ?_
    refine am_R.next ((hp 31).trans rfl) rfl ?_
    refine am_R.next ((hp 32).trans rfl) rfl ?_
    refine r_cs (as := [.inr (.inl x2), .inr (.inl 0), .inr (.inl (am_w ((g2.2.2.2 131 x1.toNat) - 1)))]) (st' := []) ((hp 33).trans rfl) rfl rfl (Nat.le_of_ble_eq_true rfl) (Nat.le_of_ble_eq_true rfl) (am_R.post H (fun v g5 hq => ?_))
    obtain ⟨r6, rfl, hw, H⟩ := hq
    change am_R _ _ _ _ _ [.inl r6] _ _
    refine r_if ((hp 36).trans rfl) (fun c13 => ?_) (fun c13 => ?_)
    · have H := H.1 c13
      refine am_R.next ((hp 43).trans rfl) rfl ?_
      refine r_getR ((hp 44).trans rfl) (hw.o (i := 109) (by decide) rfl) (hw.r wr_109_39) ?_
      refine am_R.next ((hp 47).trans rfl) rfl ?_
      refine am_R.next ((hp 49).trans rfl) rfl ?_
      refine am_R.next ((hp 50).trans rfl) rfl ?_
      refine am_R.next ((hp 51).trans rfl) rfl ?_
      refine am_R.next ((hp 52).trans rfl) rfl ?_
      refine am_R.next ((hp 53).trans rfl) rfl ?_
      refine am_R.next ((hp 54).trans rfl) rfl ?_
      refine r_getR ((hp 55).trans rfl) (hw.o (i := 109) (by decide) rfl) (hw.r wr_109_37) ?_
      refine am_R.next ((hp 58).trans rfl) rfl ?_
      obtain ⟨c7, H⟩ := H
      refine r_iald ((hp 59).trans rfl) (hw.a (i := 130) (by decide) rfl c7.1 c7.2) ?_
      refine r_cs (as := [.inr (.inl x3), .inl (g5.2.2.2 130 x1.toNat)]) (st' := [.inl (am_w ((am_w (40 * x1)) + x2)), .inr (.inr ((132 : Nat) : Int))]) ((hp 60).trans rfl) rfl rfl (Nat.le_of_ble_eq_true rfl) (Nat.le_of_ble_eq_true rfl) (am_R.post H (fun v g8 hq => ?_))
      obtain ⟨r9, rfl, hw, H⟩ := hq
      change am_R _ _ _ _ _ [.inr (.inl r9), .inl (am_w ((am_w (40 * x1)) + x2)), .inr (.inr ((132 : Nat) : Int))] _ _
      obtain ⟨c10, H⟩ := H
      obtain ⟨h11, eh11⟩ : ∃ z : am_H, z = am_put g8 132 ((am_w ((am_w (40 * x1)) + x2)).toNat) r9 := ⟨_, rfl⟩
      have H := H h11 eh11
      refine r_last ((hp 63).trans rfl) (hw.a (i := 132) (by decide) rfl c10.1 c10.2) ?_
      have hw : wf h11 := by rw [eh11]; exact hw.pa na_132
      change am_R _ _ _ _ _ _ (am_put g8 132 ((am_w ((am_w (40 * x1)) + x2)).toNat) r9) _
      rw [← eh11]
      refine am_R.next ((hp 64).trans rfl) rfl ?_
      refine r_getR ((hp 65).trans rfl) (hw.o (i := 109) (by decide) rfl) (hw.r wr_109_39) ?_
      refine am_R.next ((hp 68).trans rfl) rfl ?_
      refine am_R.next ((hp 70).trans rfl) rfl ?_
      refine am_R.next ((hp 71).trans rfl) rfl ?_
      refine am_R.next ((hp 72).trans rfl) rfl ?_
      refine am_R.next ((hp 73).trans rfl) rfl ?_
      obtain ⟨c12, H⟩ := H
      refine r_lald ((hp 74).trans rfl) (hw.a (i := 132) (by decide) rfl c12.1 c12.2) ?_
      exact am_R.ret ((hp 75).trans rfl) rfl H
    · have H := H.2 (Decidable.not_not.mp c13)
      refine am_R.next ((hp 39).trans rfl) rfl ?_
      exact am_R.ret ((hp 42).trans rfl) rfl H
  · have H := H.2 c14
    refine am_R.next ((hp 17).trans rfl) rfl ?_
    refine am_R.next ((hp 19).trans rfl) rfl ?_
    exact am_R.ret ((hp 20).trans rfl) rfl H
theorem w_M_lists_0 {scr : Nat × (Nat → Int)} {d : Nat} {h : am_H} {Q : Option am_V → am_H → Prop} {x1 x2 : Int} (hs : am_sc scr) (hw : wf h) (H : ∀ h1 : am_H, h1 = am_put h 109 0 0 → (am_R (am_prog scr) d f_M_within 0 [some (.inr (.inl x1)), none, some (.inr (.inl 0)), none, some (.inr (.inl 3)), none] [] h1 (fun v g2 => ∃ r3 : Int, v = some (.inl r3) ∧ wf g2 ∧ ((r3 = 0 → (Q (some (.inl (-2))) g2)) ∧ (¬ (r3 = 0) → (am_R (am_prog scr) d f_M_within 0 [some (.inr (.inl x2)), none, some (.inr (.inl 0)), none, some (.inr (.inl 1)), none] [] g2 (fun v g4 => ∃ r5 : Int, v = some (.inl r5) ∧ wf g4 ∧ ((¬ (r5 = 0) → (am_R (am_prog scr) d f_M_noTray 0 [some (.inr (.inr ((109 : Nat) : Int))), some (.inl x1)] [] g4 (fun v g6 => ∃ r7 : Int, v = some (.inl r7) ∧ wf g6 ∧ ((r7 = 0 → (am_R (am_prog scr) d f_M_standNow 0 [some (.inr (.inr ((109 : Nat) : Int)))] [] g6 (fun v g8 => ∃ r9 : Int, v = some (.inl r9) ∧ wf g8 ∧ (am_R (am_prog scr) (d + 1) f_M_lists 51 [some (.inr (.inr ((109 : Nat) : Int))), some (.inl x1), some (.inl x2), some (.inl r7), some (.inl r9), some (.inl 0)] [] g8 Q)))) ∧ (¬ (r7 = 0) → (Q (some (.inl r7)) g6)))))) ∧ (r5 = 0 → (Q (some (.inl (-2))) g4)))))))))) : am_R (am_prog scr) (d + 1) f_M_lists 0 [some (.inr (.inr ((109 : Nat) : Int))), some (.inl x1), some (.inl x2), none, none, none] [] h Q := by
  have hp : ∀ k, (am_prog scr).1 f_M_lists k = c_M_lists k := fun _ => rfl
  refine am_R.next ((hp 0).trans rfl) rfl ?_
  refine am_R.next ((hp 1).trans rfl) rfl ?_
  obtain ⟨h1, eh1⟩ : ∃ z : am_H, z = am_put h 109 0 0 := ⟨_, rfl⟩
  have H := H h1 eh1
  refine r_putI ((hp 2).trans rfl) (hw.o (i := 109) (by decide) rfl) ?_
  have hw : wf h1 := by rw [eh1]; exact hw.put np_109_0
  change am_R _ _ _ _ _ _ (am_put h 109 0 0) _
  rw [← eh1]
  refine am_R.next ((hp 5).trans rfl) rfl ?_
  refine am_R.next ((hp 6).trans rfl) rfl ?_
  refine am_R.next ((hp 7).trans rfl) rfl ?_
  refine am_R.next ((hp 8).trans rfl) rfl ?_
  refine r_cs (as := [.inr (.inl x1), .inr (.inl 0), .inr (.inl 3)]) (st' := []) ((hp 11).trans rfl) rfl rfl (Nat.le_of_ble_eq_true rfl) (Nat.le_of_ble_eq_true rfl) (am_R.post H (fun v g2 hq => ?_))
  obtain ⟨r3, rfl, hw, H⟩ := hq
  change am_R _ _ _ _ _ [.inl r3] _ _
  refine r_if ((hp 14).trans rfl) (fun c12 => ?_) (fun c12 => ?_)
  · have H := H.1 c12
    refine am_R.next ((hp 27).trans rfl) rfl ?_
    exact am_R.ret ((hp 29).trans rfl) rfl H
  · have H := H.2 c12
    refine am_R.next ((hp 17).trans rfl) rfl ?_
    refine am_R.next ((hp 18).trans rfl) rfl ?_
    refine am_R.next ((hp 19).trans rfl) rfl ?_
    refine am_R.next ((hp 20).trans rfl) rfl ?_
    refine r_cs (as := [.inr (.inl x2), .inr (.inl 0), .inr (.inl 1)]) (st' := []) ((hp 21).trans rfl) rfl rfl (Nat.le_of_ble_eq_true rfl) (Nat.le_of_ble_eq_true rfl) (am_R.post H (fun v g4 hq => ?_))
    obtain ⟨r5, rfl, hw, H⟩ := hq
    change am_R _ _ _ _ _ [.inl r5] _ _
    refine r_if ((hp 24).trans rfl) (fun c11 => ?_) (fun c11 => ?_)
    · have H := H.1 c11
      refine am_R.next ((hp 30).trans rfl) rfl ?_
      refine am_R.next ((hp 31).trans rfl) rfl ?_
      refine r_cv (bs := [.inl x1]) (st' := []) ((hp 32).trans rfl) (hw.o (i := 109) (by decide) rfl) rfl rfl (Nat.le_of_ble_eq_true rfl) (Nat.le_of_ble_eq_true rfl) (am_R.post H (fun v g6 hq => ?_))
      obtain ⟨r7, rfl, hw, H⟩ := hq
      change am_R _ _ _ _ _ [.inl r7] _ _
      refine am_R.next (lv' := [some (.inr (.inr ((109 : Nat) : Int))), some (.inl x1), some (.inl x2), some (.inl r7), none, none]) ((hp 35).trans rfl) rfl ?_
      refine am_R.next ((hp 36).trans rfl) rfl ?_
      refine r_if ((hp 37).trans rfl) (fun c10 => ?_) (fun c10 => ?_)
      · have H := H.1 c10
        refine am_R.next ((hp 42).trans rfl) rfl ?_
        refine r_cv (bs := []) (st' := []) ((hp 43).trans rfl) (hw.o (i := 109) (by decide) rfl) rfl rfl (Nat.le_of_ble_eq_true rfl) (Nat.le_of_ble_eq_true rfl) (am_R.post H (fun v g8 hq => ?_))
        obtain ⟨r9, rfl, hw, H⟩ := hq
        change am_R _ _ _ _ _ [.inl r9] _ _
        refine am_R.next (lv' := [some (.inr (.inr ((109 : Nat) : Int))), some (.inl x1), some (.inl x2), some (.inl r7), some (.inl r9), none]) ((hp 46).trans rfl) rfl ?_
        refine am_R.next ((hp 48).trans rfl) rfl ?_
        refine am_R.next (lv' := [some (.inr (.inr ((109 : Nat) : Int))), some (.inl x1), some (.inl x2), some (.inl r7), some (.inl r9), some (.inl 0)]) ((hp 49).trans rfl) rfl ?_
        exact H
      · have H := H.2 c10
        refine am_R.next ((hp 40).trans rfl) rfl ?_
        exact am_R.ret ((hp 41).trans rfl) rfl H
    · have H := H.2 (Decidable.not_not.mp c11)
      refine am_R.next ((hp 27).trans rfl) rfl ?_
      exact am_R.ret ((hp 29).trans rfl) rfl H
theorem w_M_lists_51 {scr : Nat × (Nat → Int)} {d : Nat} {h : am_H} {Q : Option am_V → am_H → Prop} {x1 x2 x3 x4 x5 : Int} (hs : am_sc scr) (hw : wf h) (H : (0 ≤ x1 ∧ x1 < 4) ∧ ((¬ (x5 < (h.2.2.2 131 x1.toNat)) → ((0 ≤ x1 ∧ x1 < 4) ∧ (Q (some (.inl (h.2.2.2 131 x1.toNat))) h))) ∧ (x5 < (h.2.2.2 131 x1.toNat) → (am_R (am_prog scr) d f_M_isOver 0 [some (.inr (.inr ((109 : Nat) : Int))), some (.inl x4)] [] h (fun v g3 => ∃ r4 : Int, v = some (.inl r4) ∧ wf g3 ∧ ((r4 = 0 → (am_R (am_prog scr) d f_M_beatTo 0 [some (.inr (.inr ((109 : Nat) : Int))), some (.inl x4), some (.inl (-1)), some (.inl (g3.2.2.2 110 28)), none, none, none] [] g3 (fun v g5 => ∃ r6 : Int, v = some (.inl r6) ∧ wf g5 ∧ ((¬ ((r6.tmod 2) = 1) → ((¬ (x2 = 0) → (am_R (am_prog scr) d f_M_soundIn 0 [some (.inl r6)] [] g5 (fun v g7 => ∃ r8 : Int, v = some (.inl r8) ∧ wf g7 ∧ (((0 ≤ (am_w ((am_w (40 * x1)) + x5)) ∧ (am_w ((am_w (40 * x1)) + x5)) < 160)) ∧ (∀ h10 : am_H, h10 = am_put g7 132 ((am_w ((am_w (40 * x1)) + x5)).toNat) r8 → (∀ y11 : Int, y11 = am_w (x5 + 1) → (am_R (am_prog scr) (d + 1) f_M_lists 51 [some (.inr (.inr ((109 : Nat) : Int))), some (.inl x1), some (.inl x2), some (.inl x3), some (.inl r6), some (.inl y11)] [] h10 Q))))))) ∧ (x2 = 0 → (am_R (am_prog scr) d f_M_lastIn 0 [some (.inl r6)] [] g5 (fun v g12 => ∃ r13 : Int, v = some (.inl r13) ∧ wf g12 ∧ (((0 ≤ (am_w ((am_w (40 * x1)) + x5)) ∧ (am_w ((am_w (40 * x1)) + x5)) < 160)) ∧ (∀ h15 : am_H, h15 = am_put g12 132 ((am_w ((am_w (40 * x1)) + x5)).toNat) r13 → (∀ y16 : Int, y16 = am_w (x5 + 1) → (am_R (am_prog scr) (d + 1) f_M_lists 51 [some (.inr (.inr ((109 : Nat) : Int))), some (.inl x1), some (.inl x2), some (.inl x3), some (.inl r6), some (.inl y16)] [] h15 Q))))))))) ∧ ((r6.tmod 2) = 1 → (Q (some (.inl x5)) g5)))))) ∧ (¬ (r4 = 0) → (Q (some (.inl x5)) g3)))))))) : am_R (am_prog scr) (d + 1) f_M_lists 51 [some (.inr (.inr ((109 : Nat) : Int))), some (.inl x1), some (.inl x2), some (.inl x3), some (.inl x4), some (.inl x5)] [] h Q := by
  have hp : ∀ k, (am_prog scr).1 f_M_lists k = c_M_lists k := fun _ => rfl
  refine am_R.next ((hp 51).trans rfl) rfl ?_
  refine am_R.next ((hp 53).trans rfl) rfl ?_
  refine r_getR ((hp 54).trans rfl) (hw.o (i := 109) (by decide) rfl) (hw.r wr_109_38) ?_
  refine am_R.next ((hp 57).trans rfl) rfl ?_
  obtain ⟨c1, H⟩ := H
  refine r_iald ((hp 58).trans rfl) (hw.a (i := 131) (by decide) rfl c1.1 c1.2) ?_
  refine r_ic ((hp 59).trans rfl) (fun c20 => ?_) (fun c20 => ?_)
  · have H := H.1 c20
    refine am_R.next ((hp 138).trans rfl) rfl ?_
    refine r_getR ((hp 139).trans rfl) (hw.o (i := 109) (by decide) rfl) (hw.r wr_109_38) ?_
    refine am_R.next ((hp 142).trans rfl) rfl ?_
    obtain ⟨c2, H⟩ := H
    refine r_iald ((hp 143).trans rfl) (hw.a (i := 131) (by decide) rfl c2.1 c2.2) ?_
    exact am_R.ret ((hp 144).trans rfl) rfl H
  · have H := H.2 (Decidable.not_not.mp c20)
    refine am_R.next ((hp 62).trans rfl) rfl ?_
    refine am_R.next ((hp 63).trans rfl) rfl ?_
    refine r_cv (bs := [.inl x4]) (st' := []) ((hp 65).trans rfl) (hw.o (i := 109) (by decide) rfl) rfl rfl (Nat.le_of_ble_eq_true rfl) (Nat.le_of_ble_eq_true rfl) (am_R.post H (fun v g3 hq => ?_))
    obtain ⟨r4, rfl, hw, H⟩ := hq
    change am_R _ _ _ _ _ [.inl r4] _ _
    refine r_if ((hp 68).trans rfl) (fun c19 => ?_) (fun c19 => ?_)
    · have H := H.1 c19
      refine am_R.next ((hp 74).trans rfl) rfl ?_
      refine am_R.next ((hp 75).trans rfl) rfl ?_
      refine am_R.next ((hp 77).trans rfl) rfl ?_
      refine am_R.next ((hp 78).trans rfl) rfl ?_
      refine r_getR ((hp 79).trans rfl) (hw.o (i := 109) (by decide) rfl) (hw.r wr_109_1) ?_
      refine am_R.next ((hp 82).trans rfl) rfl ?_
      refine r_iald ((hp 84).trans rfl) (hw.a (i := 110) (by decide) rfl (by decide) (by decide)) ?_
      refine r_cv (bs := [.inl x4, .inl (-1), .inl (g3.2.2.2 110 28)]) (st' := []) ((hp 85).trans rfl) (hw.o (i := 109) (by decide) rfl) rfl rfl (Nat.le_of_ble_eq_true rfl) (Nat.le_of_ble_eq_true rfl) (am_R.post H (fun v g5 hq => ?_))
      obtain ⟨r6, rfl, hw, H⟩ := hq
      change am_R _ _ _ _ _ [.inl r6] _ _
      refine am_R.next (lv' := [some (.inr (.inr ((109 : Nat) : Int))), some (.inl x1), some (.inl x2), some (.inl x3), some (.inl r6), some (.inl x5)]) ((hp 88).trans rfl) rfl ?_
      refine am_R.next ((hp 90).trans rfl) rfl ?_
      refine am_R.next ((hp 92).trans rfl) rfl ?_
      refine r_i2z ((hp 93).trans rfl) (by decide) ?_
      refine am_R.next ((hp 94).trans rfl) rfl ?_
      refine r_ic ((hp 95).trans rfl) (fun c18 => ?_) (fun c18 => ?_)
      · have H := H.1 c18
        refine am_R.next ((hp 101).trans rfl) rfl ?_
        refine r_getR ((hp 102).trans rfl) (hw.o (i := 109) (by decide) rfl) (hw.r wr_109_39) ?_
        refine am_R.next ((hp 105).trans rfl) rfl ?_
        refine am_R.next ((hp 107).trans rfl) rfl ?_
        refine am_R.next ((hp 108).trans rfl) rfl ?_
        refine am_R.next ((hp 109).trans rfl) rfl ?_
        refine am_R.next ((hp 111).trans rfl) rfl ?_
        refine am_R.next ((hp 112).trans rfl) rfl ?_
        refine r_if ((hp 113).trans rfl) (fun c17 => ?_) (fun c17 => ?_)
        · have H := H.1 c17
          refine am_R.next ((hp 125).trans rfl) rfl ?_
          refine r_cs (as := [.inl r6]) (st' := [.inl (am_w ((am_w (40 * x1)) + x5)), .inr (.inr ((132 : Nat) : Int))]) ((hp 127).trans rfl) rfl rfl (Nat.le_of_ble_eq_true rfl) (Nat.le_of_ble_eq_true rfl) (am_R.post H (fun v g7 hq => ?_))
          obtain ⟨r8, rfl, hw, H⟩ := hq
          change am_R _ _ _ _ _ [.inl r8, .inl (am_w ((am_w (40 * x1)) + x5)), .inr (.inr ((132 : Nat) : Int))] _ _
          refine am_R.next ((hp 130).trans rfl) rfl ?_
          obtain ⟨c9, H⟩ := H
          obtain ⟨h10, eh10⟩ : ∃ z : am_H, z = am_put g7 132 ((am_w ((am_w (40 * x1)) + x5)).toNat) r8 := ⟨_, rfl⟩
          have H := H h10 eh10
          refine r_last ((hp 131).trans rfl) (hw.a (i := 132) (by decide) rfl c9.1 c9.2) ?_
          have hw : wf h10 := by rw [eh10]; exact hw.pa na_132
          change am_R _ _ _ _ _ _ (am_put g7 132 ((am_w ((am_w (40 * x1)) + x5)).toNat) r8) _
          rw [← eh10]
          obtain ⟨y11, ey11⟩ : ∃ z : Int, z = am_w (x5 + 1) := ⟨_, rfl⟩
          have H := H y11 ey11
          refine am_R.next (lv' := [some (.inr (.inr ((109 : Nat) : Int))), some (.inl x1), some (.inl x2), some (.inl x3), some (.inl r6), some (.inl y11)]) (st' := []) (h' := h10) (pc' := 135) ((hp 132).trans rfl) (by rw [ey11]; rfl) ?_
          refine am_R.next ((hp 135).trans rfl) rfl ?_
          exact H
        · have H := H.2 (Decidable.not_not.mp c17)
          refine am_R.next ((hp 116).trans rfl) rfl ?_
          refine r_cs (as := [.inl r6]) (st' := [.inl (am_w ((am_w (40 * x1)) + x5)), .inr (.inr ((132 : Nat) : Int))]) ((hp 118).trans rfl) rfl rfl (Nat.le_of_ble_eq_true rfl) (Nat.le_of_ble_eq_true rfl) (am_R.post H (fun v g12 hq => ?_))
          obtain ⟨r13, rfl, hw, H⟩ := hq
          change am_R _ _ _ _ _ [.inl r13, .inl (am_w ((am_w (40 * x1)) + x5)), .inr (.inr ((132 : Nat) : Int))] _ _
          refine am_R.next ((hp 121).trans rfl) rfl ?_
          refine am_R.next ((hp 122).trans rfl) rfl ?_
          obtain ⟨c14, H⟩ := H
          obtain ⟨h15, eh15⟩ : ∃ z : am_H, z = am_put g12 132 ((am_w ((am_w (40 * x1)) + x5)).toNat) r13 := ⟨_, rfl⟩
          have H := H h15 eh15
          refine r_last ((hp 131).trans rfl) (hw.a (i := 132) (by decide) rfl c14.1 c14.2) ?_
          have hw : wf h15 := by rw [eh15]; exact hw.pa na_132
          change am_R _ _ _ _ _ _ (am_put g12 132 ((am_w ((am_w (40 * x1)) + x5)).toNat) r13) _
          rw [← eh15]
          obtain ⟨y16, ey16⟩ : ∃ z : Int, z = am_w (x5 + 1) := ⟨_, rfl⟩
          have H := H y16 ey16
          refine am_R.next (lv' := [some (.inr (.inr ((109 : Nat) : Int))), some (.inl x1), some (.inl x2), some (.inl x3), some (.inl r6), some (.inl y16)]) (st' := []) (h' := h15) (pc' := 135) ((hp 132).trans rfl) (by rw [ey16]; rfl) ?_
          refine am_R.next ((hp 135).trans rfl) rfl ?_
          exact H
      · have H := H.2 (Decidable.not_not.mp c18)
        refine am_R.next ((hp 98).trans rfl) rfl ?_
        exact am_R.ret ((hp 100).trans rfl) rfl H
    · have H := H.2 c19
      refine am_R.next ((hp 71).trans rfl) rfl ?_
      exact am_R.ret ((hp 73).trans rfl) rfl H
theorem w_M_image_0 {scr : Nat × (Nat → Int)} {d : Nat} {h : am_H} {Q : Option am_V → am_H → Prop} {x1 : Int} (hs : am_sc scr) (hw : wf h) (H : ∀ h1 : am_H, h1 = am_put h 109 0 0 → (am_R (am_prog scr) d f_M_within 0 [some (.inr (.inl x1)), none, some (.inr (.inl 0)), none, some (.inr (.inl 1)), none] [] h1 (fun v g2 => ∃ r3 : Int, v = some (.inl r3) ∧ wf g2 ∧ ((¬ (r3 = 0) → (am_R (am_prog scr) (d + 1) f_M_image 20 [some (.inr (.inr ((109 : Nat) : Int))), some (.inl x1), some (.inl 0)] [] g2 Q)) ∧ (r3 = 0 → (Q (some (.inl (-2))) g2)))))) : am_R (am_prog scr) (d + 1) f_M_image 0 [some (.inr (.inr ((109 : Nat) : Int))), some (.inl x1), none] [] h Q := by
  have hp : ∀ k, (am_prog scr).1 f_M_image k = c_M_image k := fun _ => rfl
  refine am_R.next ((hp 0).trans rfl) rfl ?_
  refine am_R.next ((hp 1).trans rfl) rfl ?_
  obtain ⟨h1, eh1⟩ : ∃ z : am_H, z = am_put h 109 0 0 := ⟨_, rfl⟩
  have H := H h1 eh1
  refine r_putI ((hp 2).trans rfl) (hw.o (i := 109) (by decide) rfl) ?_
  have hw : wf h1 := by rw [eh1]; exact hw.put np_109_0
  change am_R _ _ _ _ _ _ (am_put h 109 0 0) _
  rw [← eh1]
  refine am_R.next ((hp 5).trans rfl) rfl ?_
  refine am_R.next ((hp 6).trans rfl) rfl ?_
  refine am_R.next ((hp 7).trans rfl) rfl ?_
  refine am_R.next ((hp 8).trans rfl) rfl ?_
  refine r_cs (as := [.inr (.inl x1), .inr (.inl 0), .inr (.inl 1)]) (st' := []) ((hp 9).trans rfl) rfl rfl (Nat.le_of_ble_eq_true rfl) (Nat.le_of_ble_eq_true rfl) (am_R.post H (fun v g2 hq => ?_))
  obtain ⟨r3, rfl, hw, H⟩ := hq
  change am_R _ _ _ _ _ [.inl r3] _ _
  refine r_if ((hp 12).trans rfl) (fun c4 => ?_) (fun c4 => ?_)
  · have H := H.1 c4
    refine am_R.next ((hp 18).trans rfl) rfl ?_
    refine am_R.next (lv' := [some (.inr (.inr ((109 : Nat) : Int))), some (.inl x1), some (.inl 0)]) ((hp 19).trans rfl) rfl ?_
    exact H
  · have H := H.2 (Decidable.not_not.mp c4)
    refine am_R.next ((hp 15).trans rfl) rfl ?_
    exact am_R.ret ((hp 17).trans rfl) rfl H
theorem w_M_image_20 {scr : Nat × (Nat → Int)} {d : Nat} {h : am_H} {Q : Option am_V → am_H → Prop} {x1 x2 : Int} (hs : am_sc scr) (hw : wf h) (H : (¬ (x2 < 1112) → (((0 ≤ x1 ∧ x1 < 2)) ∧ (∀ h2 : am_H, h2 = am_put h 111 x1.toNat 1 → (Q (some (.inl 0)) h2)))) ∧ (x2 < 1112 → ((0 ≤ x2 ∧ x2 < 3336) ∧ (((0 ≤ (am_w ((am_w (1112 * (am_w (x1 + 1)))) + x2)) ∧ (am_w ((am_w (1112 * (am_w (x1 + 1)))) + x2)) < 3336)) ∧ (∀ h5 : am_H, h5 = am_put h 110 ((am_w ((am_w (1112 * (am_w (x1 + 1)))) + x2)).toNat) (h.2.2.2 110 x2.toNat) → (∀ y6 : Int, y6 = am_w (x2 + 1) → (am_R (am_prog scr) (d + 1) f_M_image 20 [some (.inr (.inr ((109 : Nat) : Int))), some (.inl x1), some (.inl y6)] [] h5 Q))))))) : am_R (am_prog scr) (d + 1) f_M_image 20 [some (.inr (.inr ((109 : Nat) : Int))), some (.inl x1), some (.inl x2)] [] h Q := by
  have hp : ∀ k, (am_prog scr).1 f_M_image k = c_M_image k := fun _ => rfl
  refine am_R.next ((hp 20).trans rfl) rfl ?_
  refine am_R.next ((hp 21).trans rfl) rfl ?_
  refine r_ic ((hp 24).trans rfl) (fun c7 => ?_) (fun c7 => ?_)
  · have H := H.1 c7
    refine am_R.next ((hp 53).trans rfl) rfl ?_
    refine r_getR ((hp 54).trans rfl) (hw.o (i := 109) (by decide) rfl) (hw.r wr_109_2) ?_
    refine am_R.next ((hp 57).trans rfl) rfl ?_
    refine am_R.next ((hp 58).trans rfl) rfl ?_
    obtain ⟨c1, H⟩ := H
    obtain ⟨h2, eh2⟩ : ∃ z : am_H, z = am_put h 111 x1.toNat 1 := ⟨_, rfl⟩
    have H := H h2 eh2
    refine r_zast ((hp 59).trans rfl) (hw.a (i := 111) (by decide) rfl c1.1 c1.2) (Or.inr rfl) ?_
    have hw : wf h2 := by rw [eh2]; exact hw.pa na_111
    change am_R _ _ _ _ _ _ (am_put h 111 x1.toNat 1) _
    rw [← eh2]
    refine am_R.next ((hp 60).trans rfl) rfl ?_
    exact am_R.ret ((hp 61).trans rfl) rfl H
  · have H := H.2 (Decidable.not_not.mp c7)
    refine am_R.next ((hp 27).trans rfl) rfl ?_
    refine r_getR ((hp 28).trans rfl) (hw.o (i := 109) (by decide) rfl) (hw.r wr_109_1) ?_
    refine am_R.next ((hp 31).trans rfl) rfl ?_
    refine am_R.next ((hp 34).trans rfl) rfl ?_
    refine am_R.next ((hp 35).trans rfl) rfl ?_
    refine am_R.next ((hp 36).trans rfl) rfl ?_
    refine am_R.next ((hp 37).trans rfl) rfl ?_
    refine am_R.next ((hp 38).trans rfl) rfl ?_
    refine am_R.next ((hp 39).trans rfl) rfl ?_
    refine am_R.next ((hp 40).trans rfl) rfl ?_
    refine r_getR ((hp 41).trans rfl) (hw.o (i := 109) (by decide) rfl) (hw.r wr_109_1) ?_
    refine am_R.next ((hp 44).trans rfl) rfl ?_
    obtain ⟨c3, H⟩ := H
    refine r_iald ((hp 45).trans rfl) (hw.a (i := 110) (by decide) rfl c3.1 c3.2) ?_
    obtain ⟨c4, H⟩ := H
    obtain ⟨h5, eh5⟩ : ∃ z : am_H, z = am_put h 110 ((am_w ((am_w (1112 * (am_w (x1 + 1)))) + x2)).toNat) (h.2.2.2 110 x2.toNat) := ⟨_, rfl⟩
    have H := H h5 eh5
    refine r_iast ((hp 46).trans rfl) (hw.a (i := 110) (by decide) rfl c4.1 c4.2) ?_
    have hw : wf h5 := by rw [eh5]; exact hw.pa na_110
    change am_R _ _ _ _ _ _ (am_put h 110 ((am_w ((am_w (1112 * (am_w (x1 + 1)))) + x2)).toNat) (h.2.2.2 110 x2.toNat)) _
    rw [← eh5]
    obtain ⟨y6, ey6⟩ : ∃ z : Int, z = am_w (x2 + 1) := ⟨_, rfl⟩
    have H := H y6 ey6
    refine am_R.next (lv' := [some (.inr (.inr ((109 : Nat) : Int))), some (.inl x1), some (.inl y6)]) (st' := []) (h' := h5) (pc' := 50) ((hp 47).trans rfl) (by rw [ey6]; rfl) ?_
    refine am_R.next ((hp 50).trans rfl) rfl ?_
    exact H
theorem w_M_restore_0 {scr : Nat × (Nat → Int)} {d : Nat} {h : am_H} {Q : Option am_V → am_H → Prop} {x1 : Int} (hs : am_sc scr) (hw : wf h) (H : ∀ h1 : am_H, h1 = am_put h 109 0 0 → (am_R (am_prog scr) d f_M_within 0 [some (.inr (.inl x1)), none, some (.inr (.inl 0)), none, some (.inr (.inl 1)), none] [] h1 (fun v g2 => ∃ r3 : Int, v = some (.inl r3) ∧ wf g2 ∧ ((¬ (r3 = 0) → ((0 ≤ x1 ∧ x1 < 2) ∧ ((¬ ((g2.2.2.2 111 x1.toNat) = 0) → (am_R (am_prog scr) (d + 1) f_M_restore 32 [some (.inr (.inr ((109 : Nat) : Int))), some (.inl x1), some (.inl 0)] [] g2 Q)) ∧ ((g2.2.2.2 111 x1.toNat) = 0 → (Q (some (.inl (-5))) g2))))) ∧ (r3 = 0 → (Q (some (.inl (-2))) g2)))))) : am_R (am_prog scr) (d + 1) f_M_restore 0 [some (.inr (.inr ((109 : Nat) : Int))), some (.inl x1), none] [] h Q := by
  have hp : ∀ k, (am_prog scr).1 f_M_restore k = c_M_restore k := fun _ => rfl
  refine am_R.next ((hp 0).trans rfl) rfl ?_
  refine am_R.next ((hp 1).trans rfl) rfl ?_
  obtain ⟨h1, eh1⟩ : ∃ z : am_H, z = am_put h 109 0 0 := ⟨_, rfl⟩
  have H := H h1 eh1
  refine r_putI ((hp 2).trans rfl) (hw.o (i := 109) (by decide) rfl) ?_
  have hw : wf h1 := by rw [eh1]; exact hw.put np_109_0
  change am_R _ _ _ _ _ _ (am_put h 109 0 0) _
  rw [← eh1]
  refine am_R.next ((hp 5).trans rfl) rfl ?_
  refine am_R.next ((hp 6).trans rfl) rfl ?_
  refine am_R.next ((hp 7).trans rfl) rfl ?_
  refine am_R.next ((hp 8).trans rfl) rfl ?_
  refine r_cs (as := [.inr (.inl x1), .inr (.inl 0), .inr (.inl 1)]) (st' := []) ((hp 9).trans rfl) rfl rfl (Nat.le_of_ble_eq_true rfl) (Nat.le_of_ble_eq_true rfl) (am_R.post H (fun v g2 hq => ?_))
  obtain ⟨r3, rfl, hw, H⟩ := hq
  change am_R _ _ _ _ _ [.inl r3] _ _
  refine r_if ((hp 12).trans rfl) (fun c6 => ?_) (fun c6 => ?_)
  · have H := H.1 c6
    refine am_R.next ((hp 18).trans rfl) rfl ?_
    refine r_getR ((hp 19).trans rfl) (hw.o (i := 109) (by decide) rfl) (hw.r wr_109_2) ?_
    refine am_R.next ((hp 22).trans rfl) rfl ?_
    obtain ⟨c4, H⟩ := H
    refine r_zald ((hp 23).trans rfl) (hw.a (i := 111) (by decide) rfl c4.1 c4.2) ?_
    refine r_if ((hp 24).trans rfl) (fun c5 => ?_) (fun c5 => ?_)
    · have H := H.1 c5
      refine am_R.next ((hp 30).trans rfl) rfl ?_
      refine am_R.next (lv' := [some (.inr (.inr ((109 : Nat) : Int))), some (.inl x1), some (.inl 0)]) ((hp 31).trans rfl) rfl ?_
      exact H
    · have H := H.2 (Decidable.not_not.mp c5)
      refine am_R.next ((hp 27).trans rfl) rfl ?_
      exact am_R.ret ((hp 29).trans rfl) rfl H
  · have H := H.2 (Decidable.not_not.mp c6)
    refine am_R.next ((hp 15).trans rfl) rfl ?_
    exact am_R.ret ((hp 17).trans rfl) rfl H
theorem w_M_restore_32 {scr : Nat × (Nat → Int)} {d : Nat} {h : am_H} {Q : Option am_V → am_H → Prop} {x1 x2 : Int} (hs : am_sc scr) (hw : wf h) (H : (¬ (x2 < 1112) → (∀ h1 : am_H, h1 = am_put h 110 30 0 → (Q (some (.inl 0)) h1))) ∧ (x2 < 1112 → ((0 ≤ (am_w ((am_w (1112 * (am_w (x1 + 1)))) + x2)) ∧ (am_w ((am_w (1112 * (am_w (x1 + 1)))) + x2)) < 3336) ∧ (((0 ≤ x2 ∧ x2 < 3336)) ∧ (∀ h4 : am_H, h4 = am_put h 110 x2.toNat (h.2.2.2 110 ((am_w ((am_w (1112 * (am_w (x1 + 1)))) + x2)).toNat)) → (∀ y5 : Int, y5 = am_w (x2 + 1) → (am_R (am_prog scr) (d + 1) f_M_restore 32 [some (.inr (.inr ((109 : Nat) : Int))), some (.inl x1), some (.inl y5)] [] h4 Q))))))) : am_R (am_prog scr) (d + 1) f_M_restore 32 [some (.inr (.inr ((109 : Nat) : Int))), some (.inl x1), some (.inl x2)] [] h Q := by
  have hp : ∀ k, (am_prog scr).1 f_M_restore k = c_M_restore k := fun _ => rfl
  refine am_R.next ((hp 32).trans rfl) rfl ?_
  refine am_R.next ((hp 33).trans rfl) rfl ?_
  refine r_ic ((hp 36).trans rfl) (fun c6 => ?_) (fun c6 => ?_)
  · have H := H.1 c6
    refine am_R.next ((hp 65).trans rfl) rfl ?_
    refine r_getR ((hp 66).trans rfl) (hw.o (i := 109) (by decide) rfl) (hw.r wr_109_1) ?_
    refine am_R.next ((hp 69).trans rfl) rfl ?_
    refine am_R.next ((hp 71).trans rfl) rfl ?_
    obtain ⟨h1, eh1⟩ : ∃ z : am_H, z = am_put h 110 30 0 := ⟨_, rfl⟩
    have H := H h1 eh1
    refine r_iast ((hp 72).trans rfl) (hw.a (i := 110) (by decide) rfl (by decide) (by decide)) ?_
    have hw : wf h1 := by rw [eh1]; exact hw.pa na_110
    change am_R _ _ _ _ _ _ (am_put h 110 30 0) _
    rw [← eh1]
    refine am_R.next ((hp 73).trans rfl) rfl ?_
    exact am_R.ret ((hp 74).trans rfl) rfl H
  · have H := H.2 (Decidable.not_not.mp c6)
    refine am_R.next ((hp 39).trans rfl) rfl ?_
    refine r_getR ((hp 40).trans rfl) (hw.o (i := 109) (by decide) rfl) (hw.r wr_109_1) ?_
    refine am_R.next ((hp 43).trans rfl) rfl ?_
    refine am_R.next ((hp 44).trans rfl) rfl ?_
    refine r_getR ((hp 45).trans rfl) (hw.o (i := 109) (by decide) rfl) (hw.r wr_109_1) ?_
    refine am_R.next ((hp 48).trans rfl) rfl ?_
    refine am_R.next ((hp 51).trans rfl) rfl ?_
    refine am_R.next ((hp 52).trans rfl) rfl ?_
    refine am_R.next ((hp 53).trans rfl) rfl ?_
    refine am_R.next ((hp 54).trans rfl) rfl ?_
    refine am_R.next ((hp 55).trans rfl) rfl ?_
    refine am_R.next ((hp 56).trans rfl) rfl ?_
    obtain ⟨c2, H⟩ := H
    refine r_iald ((hp 57).trans rfl) (hw.a (i := 110) (by decide) rfl c2.1 c2.2) ?_
    obtain ⟨c3, H⟩ := H
    obtain ⟨h4, eh4⟩ : ∃ z : am_H, z = am_put h 110 x2.toNat (h.2.2.2 110 ((am_w ((am_w (1112 * (am_w (x1 + 1)))) + x2)).toNat)) := ⟨_, rfl⟩
    have H := H h4 eh4
    refine r_iast ((hp 58).trans rfl) (hw.a (i := 110) (by decide) rfl c3.1 c3.2) ?_
    have hw : wf h4 := by rw [eh4]; exact hw.pa na_110
    change am_R _ _ _ _ _ _ (am_put h 110 x2.toNat (h.2.2.2 110 ((am_w ((am_w (1112 * (am_w (x1 + 1)))) + x2)).toNat))) _
    rw [← eh4]
    obtain ⟨y5, ey5⟩ : ∃ z : Int, z = am_w (x2 + 1) := ⟨_, rfl⟩
    have H := H y5 ey5
    refine am_R.next (lv' := [some (.inr (.inr ((109 : Nat) : Int))), some (.inl x1), some (.inl y5)]) (st' := []) (h' := h4) (pc' := 62) ((hp 59).trans rfl) (by rw [ey5]; rfl) ?_
    refine am_R.next ((hp 62).trans rfl) rfl ?_
    exact H
