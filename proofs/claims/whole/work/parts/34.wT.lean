/-! switches: what the stretches ask for (printed by program) -/
theorem w_M_wordOf_0 {scr : Nat × (Nat → Int)} {d : Nat} {h : am_H} {Q : Option am_V → am_H → Prop} {x1 : Int} (hs : am_sc scr) (hw : wf h) (H : (x1 = 6 → (Q (some (.inl 5)) h)) ∧ ((x1 = 8 → (Q (some (.inl 2)) h)) ∧ ((x1 = 10 → (Q (some (.inl 6)) h)) ∧ ((x1 = 17 → (Q (some (.inl 0)) h)) ∧ ((x1 = 18 → (Q (some (.inl 1)) h)) ∧ ((x1 = 19 → (Q (some (.inl 3)) h)) ∧ ((x1 = 20 → (Q (some (.inl 4)) h)) ∧ ((¬ x1 = 6 ∧ ¬ x1 = 8 ∧ ¬ x1 = 10 ∧ ¬ x1 = 17 ∧ ¬ x1 = 18 ∧ ¬ x1 = 19 ∧ ¬ x1 = 20) → (Q (some (.inl (-1))) h))))))))) : am_R (am_prog scr) d f_M_wordOf 0 [some (.inr (.inr ((109 : Nat) : Int))), some (.inl x1)] [] h Q := by
  have hp : ∀ k, (am_prog scr).1 f_M_wordOf k = c_M_wordOf k := fun _ => rfl
  refine am_R.next ((hp 0).trans rfl) rfl ?_
  refine am_R.next ((hp 1).trans rfl) rfl ?_
  change am_R _ _ _ (am_tsw 6 20 [86, 91, 80, 91, 88, 91, 91, 91, 91, 91, 91, 76, 78, 82, 84] 91 x1) _ _ _ _
  by_cases c1 : x1 = 6
  · have H := H.1 c1
    rw [show am_tsw 6 20 [86, 91, 80, 91, 88, 91, 91, 91, 91, 91, 91, 76, 78, 82, 84] 91 x1 = 86 by rw [c1]; rfl]
    refine am_R.next ((hp 86).trans rfl) rfl ?_
    exact am_R.ret ((hp 87).trans rfl) rfl H
  · have H := H.2
    by_cases c2 : x1 = 8
    · have H := H.1 c2
      rw [show am_tsw 6 20 [86, 91, 80, 91, 88, 91, 91, 91, 91, 91, 91, 76, 78, 82, 84] 91 x1 = 80 by rw [c2]; rfl]
      refine am_R.next ((hp 80).trans rfl) rfl ?_
      exact am_R.ret ((hp 81).trans rfl) rfl H
    · have H := H.2
      by_cases c3 : x1 = 10
      · have H := H.1 c3
        rw [show am_tsw 6 20 [86, 91, 80, 91, 88, 91, 91, 91, 91, 91, 91, 76, 78, 82, 84] 91 x1 = 88 by rw [c3]; rfl]
        refine am_R.next ((hp 88).trans rfl) rfl ?_
        exact am_R.ret ((hp 90).trans rfl) rfl H
      · have H := H.2
        by_cases c4 : x1 = 17
        · have H := H.1 c4
          rw [show am_tsw 6 20 [86, 91, 80, 91, 88, 91, 91, 91, 91, 91, 91, 76, 78, 82, 84] 91 x1 = 76 by rw [c4]; rfl]
          refine am_R.next ((hp 76).trans rfl) rfl ?_
          exact am_R.ret ((hp 77).trans rfl) rfl H
        · have H := H.2
          by_cases c5 : x1 = 18
          · have H := H.1 c5
            rw [show am_tsw 6 20 [86, 91, 80, 91, 88, 91, 91, 91, 91, 91, 91, 76, 78, 82, 84] 91 x1 = 78 by rw [c5]; rfl]
            refine am_R.next ((hp 78).trans rfl) rfl ?_
            exact am_R.ret ((hp 79).trans rfl) rfl H
          · have H := H.2
            by_cases c6 : x1 = 19
            · have H := H.1 c6
              rw [show am_tsw 6 20 [86, 91, 80, 91, 88, 91, 91, 91, 91, 91, 91, 76, 78, 82, 84] 91 x1 = 82 by rw [c6]; rfl]
              refine am_R.next ((hp 82).trans rfl) rfl ?_
              exact am_R.ret ((hp 83).trans rfl) rfl H
            · have H := H.2
              by_cases c7 : x1 = 20
              · have H := H.1 c7
                rw [show am_tsw 6 20 [86, 91, 80, 91, 88, 91, 91, 91, 91, 91, 91, 76, 78, 82, 84] 91 x1 = 84 by rw [c7]; rfl]
                refine am_R.next ((hp 84).trans rfl) rfl ?_
                exact am_R.ret ((hp 85).trans rfl) rfl H
              · have H := H.2
                have H := H ⟨c1, c2, c3, c4, c5, c6, c7⟩
                rw [show am_tsw 6 20 [86, 91, 80, 91, 88, 91, 91, 91, 91, 91, 91, 76, 78, 82, 84] 91 x1 = 91 from tsw_d (by decide) (fun j hj => match j, hj with | 0, _ => Or.inr (fun e => c1 (e.trans (by decide))) | 1, _ => Or.inl rfl | 2, _ => Or.inr (fun e => c2 (e.trans (by decide))) | 3, _ => Or.inl rfl | 4, _ => Or.inr (fun e => c3 (e.trans (by decide))) | 5, _ => Or.inl rfl | 6, _ => Or.inl rfl | 7, _ => Or.inl rfl | 8, _ => Or.inl rfl | 9, _ => Or.inl rfl | 10, _ => Or.inl rfl | 11, _ => Or.inr (fun e => c4 (e.trans (by decide))) | 12, _ => Or.inr (fun e => c5 (e.trans (by decide))) | 13, _ => Or.inr (fun e => c6 (e.trans (by decide))) | 14, _ => Or.inr (fun e => c7 (e.trans (by decide))) | n + 15, hj => absurd hj (Nat.not_lt.mpr (Nat.le_add_left 15 n)))]
                refine am_R.next ((hp 91).trans rfl) rfl ?_
                exact am_R.ret ((hp 92).trans rfl) rfl H
theorem w_M_between_0 {scr : Nat × (Nat → Int)} {d : Nat} {h : am_H} {Q : Option am_V → am_H → Prop} {x0 x1 x2 : Int} (hs : am_sc scr) (hw : wf h) (H : (x0 = 3003 → ((¬ (x1 = x2) → (Q (some (.inl 0)) h)) ∧ (x1 = x2 → (Q (some (.inl 1)) h)))) ∧ ((x0 = 3004 → ((¬ (x1 < x2) → (Q (some (.inl 0)) h)) ∧ (x1 < x2 → (Q (some (.inl 1)) h)))) ∧ ((x0 = 3005 → ((x1 ≤ x2 → (Q (some (.inl 0)) h)) ∧ (¬ (x1 ≤ x2) → (Q (some (.inl 1)) h)))) ∧ ((x0 = 3007 → (Q (some (.inl (am_and x1 x2))) h)) ∧ ((x0 = 3008 → (Q (some (.inl (am_or x1 x2))) h)) ∧ ((¬ x0 = 3003 ∧ ¬ x0 = 3004 ∧ ¬ x0 = 3005 ∧ ¬ x0 = 3007 ∧ ¬ x0 = 3008) → ((¬ (x0 = 3000) → ((¬ (x0 = 3001) → (∀ y1 : Int, y1 = am_W (x1 * x2) → ((¬ (1000000 < y1) → ((¬ (y1 < (-1000000)) → (Q (some (.inl (am_w y1))) h)) ∧ (y1 < (-1000000) → (Q (some (.inl (am_w (-1000000)))) h)))) ∧ (1000000 < y1 → (Q (some (.inl (am_w 1000000))) h))))) ∧ (x0 = 3001 → (∀ y4 : Int, y4 = am_W (x1 - x2) → ((¬ (1000000 < y4) → ((¬ (y4 < (-1000000)) → (Q (some (.inl (am_w y4))) h)) ∧ (y4 < (-1000000) → (Q (some (.inl (am_w (-1000000)))) h)))) ∧ (1000000 < y4 → (Q (some (.inl (am_w 1000000))) h))))))) ∧ (x0 = 3000 → (∀ y8 : Int, y8 = am_W (x1 + x2) → ((¬ (1000000 < y8) → ((¬ (y8 < (-1000000)) → (Q (some (.inl (am_w y8))) h)) ∧ (y8 < (-1000000) → (Q (some (.inl (am_w (-1000000)))) h)))) ∧ (1000000 < y8 → (Q (some (.inl (am_w 1000000))) h)))))))))))) : am_R (am_prog scr) d f_M_between 0 [some (.inl x0), some (.inl x1), some (.inl x2), none, none] [] h Q := by
  have hp : ∀ k, (am_prog scr).1 f_M_between k = c_M_between k := fun _ => rfl
  refine am_R.next ((hp 0).trans rfl) rfl ?_
  refine am_R.next ((hp 1).trans rfl) rfl ?_
  change am_R _ _ _ (am_tsw 3003 3008 [40, 51, 62, 81, 73, 77] 81 x0) _ _ _ _
  by_cases c12 : x0 = 3003
  · have H := H.1 c12
    rw [show am_tsw 3003 3008 [40, 51, 62, 81, 73, 77] 81 x0 = 40 by rw [c12]; rfl]
    refine am_R.next ((hp 40).trans rfl) rfl ?_
    refine am_R.next ((hp 41).trans rfl) rfl ?_
    refine r_ic ((hp 42).trans rfl) (fun c19 => ?_) (fun c19 => ?_)
    · have H := H.1 c19
      refine am_R.next ((hp 49).trans rfl) rfl ?_
      exact am_R.ret ((hp 50).trans rfl) rfl H
    · have H := H.2 (Decidable.not_not.mp c19)
      refine am_R.next ((hp 45).trans rfl) rfl ?_
      refine am_R.next ((hp 46).trans rfl) rfl ?_
      exact am_R.ret ((hp 50).trans rfl) rfl H
  · have H := H.2
    by_cases c13 : x0 = 3004
    · have H := H.1 c13
      rw [show am_tsw 3003 3008 [40, 51, 62, 81, 73, 77] 81 x0 = 51 by rw [c13]; rfl]
      refine am_R.next ((hp 51).trans rfl) rfl ?_
      refine am_R.next ((hp 52).trans rfl) rfl ?_
      refine r_ic ((hp 53).trans rfl) (fun c18 => ?_) (fun c18 => ?_)
      · have H := H.1 c18
        refine am_R.next ((hp 60).trans rfl) rfl ?_
        exact am_R.ret ((hp 61).trans rfl) rfl H
      · have H := H.2 (Decidable.not_not.mp c18)
        refine am_R.next ((hp 56).trans rfl) rfl ?_
        refine am_R.next ((hp 57).trans rfl) rfl ?_
        exact am_R.ret ((hp 61).trans rfl) rfl H
    · have H := H.2
      by_cases c14 : x0 = 3005
      · have H := H.1 c14
        rw [show am_tsw 3003 3008 [40, 51, 62, 81, 73, 77] 81 x0 = 62 by rw [c14]; rfl]
        refine am_R.next ((hp 62).trans rfl) rfl ?_
        refine am_R.next ((hp 63).trans rfl) rfl ?_
        refine r_ic ((hp 64).trans rfl) (fun c17 => ?_) (fun c17 => ?_)
        · have H := H.1 c17
          refine am_R.next ((hp 71).trans rfl) rfl ?_
          exact am_R.ret ((hp 72).trans rfl) rfl H
        · have H := H.2 c17
          refine am_R.next ((hp 67).trans rfl) rfl ?_
          refine am_R.next ((hp 68).trans rfl) rfl ?_
          exact am_R.ret ((hp 72).trans rfl) rfl H
      · have H := H.2
        by_cases c15 : x0 = 3007
        · have H := H.1 c15
          rw [show am_tsw 3003 3008 [40, 51, 62, 81, 73, 77] 81 x0 = 73 by rw [c15]; rfl]
          refine am_R.next ((hp 73).trans rfl) rfl ?_
          refine am_R.next ((hp 74).trans rfl) rfl ?_
          refine am_R.next ((hp 75).trans rfl) rfl ?_
          exact am_R.ret ((hp 76).trans rfl) rfl H
        · have H := H.2
          by_cases c16 : x0 = 3008
          · have H := H.1 c16
            rw [show am_tsw 3003 3008 [40, 51, 62, 81, 73, 77] 81 x0 = 77 by rw [c16]; rfl]
            refine am_R.next ((hp 77).trans rfl) rfl ?_
            refine am_R.next ((hp 78).trans rfl) rfl ?_
            refine am_R.next ((hp 79).trans rfl) rfl ?_
            exact am_R.ret ((hp 80).trans rfl) rfl H
          · have H := H.2
            have H := H ⟨c12, c13, c14, c15, c16⟩
            rw [show am_tsw 3003 3008 [40, 51, 62, 81, 73, 77] 81 x0 = 81 from tsw_d (by decide) (fun j hj => match j, hj with | 0, _ => Or.inr (fun e => c12 (e.trans (by decide))) | 1, _ => Or.inr (fun e => c13 (e.trans (by decide))) | 2, _ => Or.inr (fun e => c14 (e.trans (by decide))) | 3, _ => Or.inl rfl | 4, _ => Or.inr (fun e => c15 (e.trans (by decide))) | 5, _ => Or.inr (fun e => c16 (e.trans (by decide))) | n + 6, hj => absurd hj (Nat.not_lt.mpr (Nat.le_add_left 6 n)))]
            refine am_R.next ((hp 81).trans rfl) rfl ?_
            refine am_R.next ((hp 82).trans rfl) rfl ?_
            refine r_ic ((hp 85).trans rfl) (fun c11 => ?_) (fun c11 => ?_)
            · have H := H.1 c11
              refine am_R.next ((hp 96).trans rfl) rfl ?_
              refine am_R.next ((hp 97).trans rfl) rfl ?_
              refine r_ic ((hp 100).trans rfl) (fun c7 => ?_) (fun c7 => ?_)
              · have H := H.1 c7
                refine am_R.next ((hp 111).trans rfl) rfl ?_
                refine am_R.next ((hp 112).trans rfl) rfl ?_
                refine am_R.next ((hp 113).trans rfl) rfl ?_
                refine am_R.next ((hp 114).trans rfl) rfl ?_
                refine am_R.next ((hp 115).trans rfl) rfl ?_
                obtain ⟨y1, ey1⟩ : ∃ z : Int, z = am_W (x1 * x2) := ⟨_, rfl⟩
                have H := H y1 ey1
                refine am_R.next (lv' := [some (.inl x0), some (.inl x1), some (.inl x2), some (.inr (.inl y1)), none]) (st' := []) (h' := h) (pc' := 117) ((hp 116).trans rfl) (by rw [ey1]; rfl) ?_
                refine am_R.next ((hp 117).trans rfl) rfl ?_
                refine am_R.next ((hp 118).trans rfl) rfl ?_
                refine am_R.next ((hp 121).trans rfl) rfl ?_
                refine r_if ((hp 122).trans rfl) (fun c3 => ?_) (fun c3 => ?_)
                · have H := H.1 (lc_let c3)
                  refine am_R.next ((hp 131).trans rfl) rfl ?_
                  refine am_R.next ((hp 132).trans rfl) rfl ?_
                  refine am_R.next ((hp 135).trans rfl) rfl ?_
                  refine r_if ((hp 136).trans rfl) (fun c2 => ?_) (fun c2 => ?_)
                  · have H := H.1 (lc_get c2)
                    refine am_R.next ((hp 145).trans rfl) rfl ?_
                    refine am_R.next ((hp 146).trans rfl) rfl ?_
                    exact am_R.ret ((hp 147).trans rfl) rfl H
                  · have H := H.2 (lc_gef c2)
                    refine am_R.next ((hp 139).trans rfl) rfl ?_
                    refine am_R.next ((hp 142).trans rfl) rfl ?_
                    refine am_R.next ((hp 146).trans rfl) rfl ?_
                    exact am_R.ret ((hp 147).trans rfl) rfl H
                · have H := H.2 (lc_lef c3)
                  refine am_R.next ((hp 125).trans rfl) rfl ?_
                  refine am_R.next ((hp 128).trans rfl) rfl ?_
                  refine am_R.next ((hp 146).trans rfl) rfl ?_
                  exact am_R.ret ((hp 147).trans rfl) rfl H
              · have H := H.2 (Decidable.not_not.mp c7)
                refine am_R.next ((hp 103).trans rfl) rfl ?_
                refine am_R.next ((hp 104).trans rfl) rfl ?_
                refine am_R.next ((hp 105).trans rfl) rfl ?_
                refine am_R.next ((hp 106).trans rfl) rfl ?_
                refine am_R.next ((hp 107).trans rfl) rfl ?_
                refine am_R.next ((hp 108).trans rfl) rfl ?_
                obtain ⟨y4, ey4⟩ : ∃ z : Int, z = am_W (x1 - x2) := ⟨_, rfl⟩
                have H := H y4 ey4
                refine am_R.next (lv' := [some (.inl x0), some (.inl x1), some (.inl x2), some (.inr (.inl y4)), none]) (st' := []) (h' := h) (pc' := 117) ((hp 116).trans rfl) (by rw [ey4]; rfl) ?_
                refine am_R.next ((hp 117).trans rfl) rfl ?_
                refine am_R.next ((hp 118).trans rfl) rfl ?_
                refine am_R.next ((hp 121).trans rfl) rfl ?_
                refine r_if ((hp 122).trans rfl) (fun c6 => ?_) (fun c6 => ?_)
                · have H := H.1 (lc_let c6)
                  refine am_R.next ((hp 131).trans rfl) rfl ?_
                  refine am_R.next ((hp 132).trans rfl) rfl ?_
                  refine am_R.next ((hp 135).trans rfl) rfl ?_
                  refine r_if ((hp 136).trans rfl) (fun c5 => ?_) (fun c5 => ?_)
                  · have H := H.1 (lc_get c5)
                    refine am_R.next ((hp 145).trans rfl) rfl ?_
                    refine am_R.next ((hp 146).trans rfl) rfl ?_
                    exact am_R.ret ((hp 147).trans rfl) rfl H
                  · have H := H.2 (lc_gef c5)
                    refine am_R.next ((hp 139).trans rfl) rfl ?_
                    refine am_R.next ((hp 142).trans rfl) rfl ?_
                    refine am_R.next ((hp 146).trans rfl) rfl ?_
                    exact am_R.ret ((hp 147).trans rfl) rfl H
                · have H := H.2 (lc_lef c6)
                  refine am_R.next ((hp 125).trans rfl) rfl ?_
                  refine am_R.next ((hp 128).trans rfl) rfl ?_
                  refine am_R.next ((hp 146).trans rfl) rfl ?_
                  exact am_R.ret ((hp 147).trans rfl) rfl H
            · have H := H.2 (Decidable.not_not.mp c11)
              refine am_R.next ((hp 88).trans rfl) rfl ?_
              refine am_R.next ((hp 89).trans rfl) rfl ?_
              refine am_R.next ((hp 90).trans rfl) rfl ?_
              refine am_R.next ((hp 91).trans rfl) rfl ?_
              refine am_R.next ((hp 92).trans rfl) rfl ?_
              refine am_R.next ((hp 93).trans rfl) rfl ?_
              obtain ⟨y8, ey8⟩ : ∃ z : Int, z = am_W (x1 + x2) := ⟨_, rfl⟩
              have H := H y8 ey8
              refine am_R.next (lv' := [some (.inl x0), some (.inl x1), some (.inl x2), some (.inr (.inl y8)), none]) (st' := []) (h' := h) (pc' := 117) ((hp 116).trans rfl) (by rw [ey8]; rfl) ?_
              refine am_R.next ((hp 117).trans rfl) rfl ?_
              refine am_R.next ((hp 118).trans rfl) rfl ?_
              refine am_R.next ((hp 121).trans rfl) rfl ?_
              refine r_if ((hp 122).trans rfl) (fun c10 => ?_) (fun c10 => ?_)
              · have H := H.1 (lc_let c10)
                refine am_R.next ((hp 131).trans rfl) rfl ?_
                refine am_R.next ((hp 132).trans rfl) rfl ?_
                refine am_R.next ((hp 135).trans rfl) rfl ?_
                refine r_if ((hp 136).trans rfl) (fun c9 => ?_) (fun c9 => ?_)
                · have H := H.1 (lc_get c9)
                  refine am_R.next ((hp 145).trans rfl) rfl ?_
                  refine am_R.next ((hp 146).trans rfl) rfl ?_
                  exact am_R.ret ((hp 147).trans rfl) rfl H
                · have H := H.2 (lc_gef c9)
                  refine am_R.next ((hp 139).trans rfl) rfl ?_
                  refine am_R.next ((hp 142).trans rfl) rfl ?_
                  refine am_R.next ((hp 146).trans rfl) rfl ?_
                  exact am_R.ret ((hp 147).trans rfl) rfl H
              · have H := H.2 (lc_lef c10)
                refine am_R.next ((hp 125).trans rfl) rfl ?_
                refine am_R.next ((hp 128).trans rfl) rfl ?_
                refine am_R.next ((hp 146).trans rfl) rfl ?_
                exact am_R.ret ((hp 147).trans rfl) rfl H
theorem w_M_count_0 {scr : Nat × (Nat → Int)} {d : Nat} {h : am_H} {Q : Option am_V → am_H → Prop} {x1 : Int} (hs : am_sc scr) (hw : wf h) (H : ∀ h1 : am_H, h1 = am_put h 109 0 0 → ((x1 = 0 → (Q (some (.inl (h1.2.2.2 110 1))) h1)) ∧ ((x1 = 1 → (Q (some (.inl (h1.2.2.2 110 4))) h1)) ∧ ((x1 = 2 → (Q (some (.inl (h1.2.2.2 110 2))) h1)) ∧ ((x1 = 3 → (Q (some (.inl (h1.2.2.2 110 3))) h1)) ∧ ((x1 = 4 → (am_R (am_prog scr) d f_M_lastNow 0 [some (.inr (.inr ((109 : Nat) : Int)))] [] h1 (fun v g21 => ∃ r22 : Int, v = some (.inl r22) ∧ wf g21 ∧ (Q (some (.inl r22)) g21)))) ∧ ((x1 = 5 → (Q (some (.inl (h1.2.2.2 110 13))) h1)) ∧ ((x1 = 6 → (Q (some (.inl (h1.2.2.2 110 14))) h1)) ∧ ((x1 = 7 → (am_R (am_prog scr) d f_M_standNow 0 [some (.inr (.inr ((109 : Nat) : Int)))] [] h1 (fun v g15 => ∃ r16 : Int, v = some (.inl r16) ∧ wf g15 ∧ (am_R (am_prog scr) d f_M_hasEnded 0 [some (.inr (.inr ((109 : Nat) : Int))), some (.inl r16)] [] g15 (fun v g17 => ∃ r18 : Int, v = some (.inl r18) ∧ wf g17 ∧ ((r18 = 0 → ((¬ ((g17.2.2.2 110 15) = 1) → (Q (some (.inl 0)) g17)) ∧ ((g17.2.2.2 110 15) = 1 → (Q (some (.inl 2)) g17)))) ∧ (¬ (r18 = 0) → (Q (some (.inl 1)) g17)))))))) ∧ ((x1 = 8 → (Q (some (.inl (h1.2.2.2 110 28))) h1)) ∧ ((x1 = 9 → (Q (some (.inl (h1.2.2.2 110 29))) h1)) ∧ ((x1 = 10 → (Q (some (.inl (h1.2.2.2 110 30))) h1)) ∧ ((x1 = 11 → (Q (some (.inl (h1.2.2.2 109 5))) h1)) ∧ ((x1 = 12 → (Q (some (.inl (h1.2.2.2 110 0))) h1)) ∧ ((¬ x1 = 0 ∧ ¬ x1 = 1 ∧ ¬ x1 = 2 ∧ ¬ x1 = 3 ∧ ¬ x1 = 4 ∧ ¬ x1 = 5 ∧ ¬ x1 = 6 ∧ ¬ x1 = 7 ∧ ¬ x1 = 8 ∧ ¬ x1 = 9 ∧ ¬ x1 = 10 ∧ ¬ x1 = 11 ∧ ¬ x1 = 12) → (Q (some (.inl (-1))) h1)))))))))))))))) : am_R (am_prog scr) (d + 1) f_M_count 0 [some (.inr (.inr ((109 : Nat) : Int))), some (.inl x1)] [] h Q := by
  have hp : ∀ k, (am_prog scr).1 f_M_count k = c_M_count k := fun _ => rfl
  refine am_R.next ((hp 0).trans rfl) rfl ?_
  refine am_R.next ((hp 1).trans rfl) rfl ?_
  obtain ⟨h1, eh1⟩ : ∃ z : am_H, z = am_put h 109 0 0 := ⟨_, rfl⟩
  have H := H h1 eh1
  refine r_putI ((hp 2).trans rfl) (hw.o (i := 109) (by decide) rfl) ?_
  have hw : wf h1 := by rw [eh1]; exact hw.put np_109_0
  change am_R _ _ _ _ _ _ (am_put h 109 0 0) _
  rw [← eh1]
  refine am_R.next ((hp 5).trans rfl) rfl ?_
  refine am_R.next ((hp 6).trans rfl) rfl ?_
  change am_R _ _ _ (am_tsw 0 12 [72, 79, 86, 93, 100, 105, 113, 121, 153, 161, 169, 177, 182] 189 x1) _ _ _ _
  by_cases c2 : x1 = 0
  · have H := H.1 c2
    rw [show am_tsw 0 12 [72, 79, 86, 93, 100, 105, 113, 121, 153, 161, 169, 177, 182] 189 x1 = 72 by rw [c2]; rfl]
    refine am_R.next ((hp 72).trans rfl) rfl ?_
    refine r_getR ((hp 73).trans rfl) (hw.o (i := 109) (by decide) rfl) (hw.r wr_109_1) ?_
    refine am_R.next ((hp 76).trans rfl) rfl ?_
    refine r_iald ((hp 77).trans rfl) (hw.a (i := 110) (by decide) rfl (by decide) (by decide)) ?_
    exact am_R.ret ((hp 78).trans rfl) rfl H
  · have H := H.2
    by_cases c3 : x1 = 1
    · have H := H.1 c3
      rw [show am_tsw 0 12 [72, 79, 86, 93, 100, 105, 113, 121, 153, 161, 169, 177, 182] 189 x1 = 79 by rw [c3]; rfl]
      refine am_R.next ((hp 79).trans rfl) rfl ?_
      refine r_getR ((hp 80).trans rfl) (hw.o (i := 109) (by decide) rfl) (hw.r wr_109_1) ?_
      refine am_R.next ((hp 83).trans rfl) rfl ?_
      refine r_iald ((hp 84).trans rfl) (hw.a (i := 110) (by decide) rfl (by decide) (by decide)) ?_
      exact am_R.ret ((hp 85).trans rfl) rfl H
    · have H := H.2
      by_cases c4 : x1 = 2
      · have H := H.1 c4
        rw [show am_tsw 0 12 [72, 79, 86, 93, 100, 105, 113, 121, 153, 161, 169, 177, 182] 189 x1 = 86 by rw [c4]; rfl]
        refine am_R.next ((hp 86).trans rfl) rfl ?_
        refine r_getR ((hp 87).trans rfl) (hw.o (i := 109) (by decide) rfl) (hw.r wr_109_1) ?_
        refine am_R.next ((hp 90).trans rfl) rfl ?_
        refine r_iald ((hp 91).trans rfl) (hw.a (i := 110) (by decide) rfl (by decide) (by decide)) ?_
        exact am_R.ret ((hp 92).trans rfl) rfl H
      · have H := H.2
        by_cases c5 : x1 = 3
        · have H := H.1 c5
          rw [show am_tsw 0 12 [72, 79, 86, 93, 100, 105, 113, 121, 153, 161, 169, 177, 182] 189 x1 = 93 by rw [c5]; rfl]
          refine am_R.next ((hp 93).trans rfl) rfl ?_
          refine r_getR ((hp 94).trans rfl) (hw.o (i := 109) (by decide) rfl) (hw.r wr_109_1) ?_
          refine am_R.next ((hp 97).trans rfl) rfl ?_
          refine r_iald ((hp 98).trans rfl) (hw.a (i := 110) (by decide) rfl (by decide) (by decide)) ?_
          exact am_R.ret ((hp 99).trans rfl) rfl H
        · have H := H.2
          by_cases c6 : x1 = 4
          · have H := H.1 c6
            rw [show am_tsw 0 12 [72, 79, 86, 93, 100, 105, 113, 121, 153, 161, 169, 177, 182] 189 x1 = 100 by rw [c6]; rfl]
            refine am_R.next ((hp 100).trans rfl) rfl ?_
            refine r_cv (bs := []) (st' := []) ((hp 101).trans rfl) (hw.o (i := 109) (by decide) rfl) rfl rfl (Nat.le_of_ble_eq_true rfl) (Nat.le_of_ble_eq_true rfl) (am_R.post H (fun v g21 hq => ?_))
            obtain ⟨r22, rfl, hw, H⟩ := hq
            change am_R _ _ _ _ _ [.inl r22] _ _
            exact am_R.ret ((hp 104).trans rfl) rfl H
          · have H := H.2
            by_cases c7 : x1 = 5
            · have H := H.1 c7
              rw [show am_tsw 0 12 [72, 79, 86, 93, 100, 105, 113, 121, 153, 161, 169, 177, 182] 189 x1 = 105 by rw [c7]; rfl]
              refine am_R.next ((hp 105).trans rfl) rfl ?_
              refine r_getR ((hp 106).trans rfl) (hw.o (i := 109) (by decide) rfl) (hw.r wr_109_1) ?_
              refine am_R.next ((hp 109).trans rfl) rfl ?_
              refine r_iald ((hp 111).trans rfl) (hw.a (i := 110) (by decide) rfl (by decide) (by decide)) ?_
              exact am_R.ret ((hp 112).trans rfl) rfl H
            · have H := H.2
              by_cases c8 : x1 = 6
              · have H := H.1 c8
                rw [show am_tsw 0 12 [72, 79, 86, 93, 100, 105, 113, 121, 153, 161, 169, 177, 182] 189 x1 = 113 by rw [c8]; rfl]
                refine am_R.next ((hp 113).trans rfl) rfl ?_
                refine r_getR ((hp 114).trans rfl) (hw.o (i := 109) (by decide) rfl) (hw.r wr_109_1) ?_
                refine am_R.next ((hp 117).trans rfl) rfl ?_
                refine r_iald ((hp 119).trans rfl) (hw.a (i := 110) (by decide) rfl (by decide) (by decide)) ?_
                exact am_R.ret ((hp 120).trans rfl) rfl H
              · have H := H.2
                by_cases c9 : x1 = 7
                · have H := H.1 c9
                  rw [show am_tsw 0 12 [72, 79, 86, 93, 100, 105, 113, 121, 153, 161, 169, 177, 182] 189 x1 = 121 by rw [c9]; rfl]
                  refine am_R.next ((hp 121).trans rfl) rfl ?_
                  refine am_R.next ((hp 122).trans rfl) rfl ?_
                  refine r_cv (bs := []) (st' := [.inr (.inr ((109 : Nat) : Int))]) ((hp 123).trans rfl) (hw.o (i := 109) (by decide) rfl) rfl rfl (Nat.le_of_ble_eq_true rfl) (Nat.le_of_ble_eq_true rfl) (am_R.post H (fun v g15 hq => ?_))
                  obtain ⟨r16, rfl, hw, H⟩ := hq
                  change am_R _ _ _ _ _ [.inl r16, .inr (.inr ((109 : Nat) : Int))] _ _
                  refine r_cv (bs := [.inl r16]) (st' := []) ((hp 126).trans rfl) (hw.o (i := 109) (by decide) rfl) rfl rfl (Nat.le_of_ble_eq_true rfl) (Nat.le_of_ble_eq_true rfl) (am_R.post H (fun v g17 hq => ?_))
                  obtain ⟨r18, rfl, hw, H⟩ := hq
                  change am_R _ _ _ _ _ [.inl r18] _ _
                  refine r_if ((hp 129).trans rfl) (fun c20 => ?_) (fun c20 => ?_)
                  · have H := H.1 c20
                    refine am_R.next ((hp 136).trans rfl) rfl ?_
                    refine r_getR ((hp 137).trans rfl) (hw.o (i := 109) (by decide) rfl) (hw.r wr_109_1) ?_
                    refine am_R.next ((hp 140).trans rfl) rfl ?_
                    refine r_iald ((hp 142).trans rfl) (hw.a (i := 110) (by decide) rfl (by decide) (by decide)) ?_
                    refine am_R.next ((hp 143).trans rfl) rfl ?_
                    refine r_ic ((hp 144).trans rfl) (fun c19 => ?_) (fun c19 => ?_)
                    · have H := H.1 c19
                      refine am_R.next ((hp 151).trans rfl) rfl ?_
                      exact am_R.ret ((hp 152).trans rfl) rfl H
                    · have H := H.2 (Decidable.not_not.mp c19)
                      refine am_R.next ((hp 147).trans rfl) rfl ?_
                      refine am_R.next ((hp 148).trans rfl) rfl ?_
                      exact am_R.ret ((hp 152).trans rfl) rfl H
                  · have H := H.2 c20
                    refine am_R.next ((hp 132).trans rfl) rfl ?_
                    refine am_R.next ((hp 133).trans rfl) rfl ?_
                    exact am_R.ret ((hp 152).trans rfl) rfl H
                · have H := H.2
                  by_cases c10 : x1 = 8
                  · have H := H.1 c10
                    rw [show am_tsw 0 12 [72, 79, 86, 93, 100, 105, 113, 121, 153, 161, 169, 177, 182] 189 x1 = 153 by rw [c10]; rfl]
                    refine am_R.next ((hp 153).trans rfl) rfl ?_
                    refine r_getR ((hp 154).trans rfl) (hw.o (i := 109) (by decide) rfl) (hw.r wr_109_1) ?_
                    refine am_R.next ((hp 157).trans rfl) rfl ?_
                    refine r_iald ((hp 159).trans rfl) (hw.a (i := 110) (by decide) rfl (by decide) (by decide)) ?_
                    exact am_R.ret ((hp 160).trans rfl) rfl H
                  · have H := H.2
                    by_cases c11 : x1 = 9
                    · have H := H.1 c11
                      rw [show am_tsw 0 12 [72, 79, 86, 93, 100, 105, 113, 121, 153, 161, 169, 177, 182] 189 x1 = 161 by rw [c11]; rfl]
                      refine am_R.next ((hp 161).trans rfl) rfl ?_
                      refine r_getR ((hp 162).trans rfl) (hw.o (i := 109) (by decide) rfl) (hw.r wr_109_1) ?_
                      refine am_R.next ((hp 165).trans rfl) rfl ?_
                      refine r_iald ((hp 167).trans rfl) (hw.a (i := 110) (by decide) rfl (by decide) (by decide)) ?_
                      exact am_R.ret ((hp 168).trans rfl) rfl H
                    · have H := H.2
                      by_cases c12 : x1 = 10
                      · have H := H.1 c12
                        rw [show am_tsw 0 12 [72, 79, 86, 93, 100, 105, 113, 121, 153, 161, 169, 177, 182] 189 x1 = 169 by rw [c12]; rfl]
                        refine am_R.next ((hp 169).trans rfl) rfl ?_
                        refine r_getR ((hp 170).trans rfl) (hw.o (i := 109) (by decide) rfl) (hw.r wr_109_1) ?_
                        refine am_R.next ((hp 173).trans rfl) rfl ?_
                        refine r_iald ((hp 175).trans rfl) (hw.a (i := 110) (by decide) rfl (by decide) (by decide)) ?_
                        exact am_R.ret ((hp 176).trans rfl) rfl H
                      · have H := H.2
                        by_cases c13 : x1 = 11
                        · have H := H.1 c13
                          rw [show am_tsw 0 12 [72, 79, 86, 93, 100, 105, 113, 121, 153, 161, 169, 177, 182] 189 x1 = 177 by rw [c13]; rfl]
                          refine am_R.next ((hp 177).trans rfl) rfl ?_
                          refine r_getI ((hp 178).trans rfl) (hw.o (i := 109) (by decide) rfl) ?_
                          exact am_R.ret ((hp 181).trans rfl) rfl H
                        · have H := H.2
                          by_cases c14 : x1 = 12
                          · have H := H.1 c14
                            rw [show am_tsw 0 12 [72, 79, 86, 93, 100, 105, 113, 121, 153, 161, 169, 177, 182] 189 x1 = 182 by rw [c14]; rfl]
                            refine am_R.next ((hp 182).trans rfl) rfl ?_
                            refine r_getR ((hp 183).trans rfl) (hw.o (i := 109) (by decide) rfl) (hw.r wr_109_1) ?_
                            refine am_R.next ((hp 186).trans rfl) rfl ?_
                            refine r_iald ((hp 187).trans rfl) (hw.a (i := 110) (by decide) rfl (by decide) (by decide)) ?_
                            exact am_R.ret ((hp 188).trans rfl) rfl H
                          · have H := H.2
                            have H := H ⟨c2, c3, c4, c5, c6, c7, c8, c9, c10, c11, c12, c13, c14⟩
                            rw [show am_tsw 0 12 [72, 79, 86, 93, 100, 105, 113, 121, 153, 161, 169, 177, 182] 189 x1 = 189 from tsw_d (by decide) (fun j hj => match j, hj with | 0, _ => Or.inr (fun e => c2 (e.trans (by decide))) | 1, _ => Or.inr (fun e => c3 (e.trans (by decide))) | 2, _ => Or.inr (fun e => c4 (e.trans (by decide))) | 3, _ => Or.inr (fun e => c5 (e.trans (by decide))) | 4, _ => Or.inr (fun e => c6 (e.trans (by decide))) | 5, _ => Or.inr (fun e => c7 (e.trans (by decide))) | 6, _ => Or.inr (fun e => c8 (e.trans (by decide))) | 7, _ => Or.inr (fun e => c9 (e.trans (by decide))) | 8, _ => Or.inr (fun e => c10 (e.trans (by decide))) | 9, _ => Or.inr (fun e => c11 (e.trans (by decide))) | 10, _ => Or.inr (fun e => c12 (e.trans (by decide))) | 11, _ => Or.inr (fun e => c13 (e.trans (by decide))) | 12, _ => Or.inr (fun e => c14 (e.trans (by decide))) | n + 13, hj => absurd hj (Nat.not_lt.mpr (Nat.le_add_left 13 n)))]
                            refine am_R.next ((hp 189).trans rfl) rfl ?_
                            exact am_R.ret ((hp 190).trans rfl) rfl H
theorem w_S_judge_0 {scr : Nat × (Nat → Int)} {d : Nat} {h : am_H} {Q : Option am_V → am_H → Prop} {x1 x2 : Int} (hs : am_sc scr) (hw : wf h) (H : (x2 < 0 → (Q (some (.inl (-2))) h)) ∧ (¬ (x2 < 0) → ((x2 ≤ 3 → (am_R (am_prog scr) d f_S_trayRefusal 0 [some (.inr (.inr ((0 : Nat) : Int))), some (.inl x1)] [] h (fun v g1 => ∃ r2 : Int, v = some (.inl r2) ∧ wf g1 ∧ ((r2 = 0 → (am_R (am_prog scr) d f_Play_takeFrom 0 [some (.inr (.inr ((27 : Nat) : Int))), some (.inr (.inr ((24 : Nat) : Int)))] [] g1 (fun v g3 => v = none ∧ wf g3 ∧ ((0 ≤ x1 ∧ x1 < 4) ∧ (am_R (am_prog scr) d f_S_enactAll 0 [some (.inr (.inr ((0 : Nat) : Int))), some (.inr (.inr ((27 : Nat) : Int))), some (.inr (.inr (((95 + 2 * x1.toNat) : Nat) : Int))), none] [] g3 (fun v g5 => ∃ r6 : Int, v = some (.inl r6) ∧ wf g5 ∧ ((0 ≤ x1 ∧ x1 < 4) ∧ ((r6 < (g5.2.2.2 (95 + 2 * x1.toNat) 2) → ((x2 = 0 → (((0 : Int) = 0 → (Q (some (.inl r6)) g5)) ∧ (¬ ((0 : Int) = 0) → (Q (some (.inl (-1))) g5)))) ∧ ((x2 = 1 → (((0 : Int) = 0 → ((0 ≤ x1 ∧ x1 < 4) ∧ ((0 ≤ r6 ∧ r6 < 40) ∧ (am_R (am_prog scr) d f_Stage_whyNot 0 [some (.inr (.inr ((9 : Nat) : Int))), some (.inr (.inr ((27 : Nat) : Int))), some (.inr (.inl (g5.2.2.2 ((95 + 2 * x1.toNat) + 1) r6.toNat))), none, none, none] [] g5 (fun v g13 => ∃ r14 : Int, v = some (.inl r14) ∧ wf g13 ∧ (Q (some (.inl r14)) g13)))))) ∧ (¬ ((0 : Int) = 0) → (Q (some (.inl 0)) g5)))) ∧ ((x2 = 2 → (Q (some (.inl (g5.2.2.2 27 4))) g5)) ∧ ((¬ x2 = 0 ∧ ¬ x2 = 1 ∧ ¬ x2 = 2) → (Q (some (.inl (am_w ((am_w (10 * (g5.2.2.2 27 6))) + (g5.2.2.2 27 5))))) g5)))))) ∧ (¬ (r6 < (g5.2.2.2 (95 + 2 * x1.toNat) 2)) → ((x2 = 0 → (((1 : Int) = 0 → (Q (some (.inl r6)) g5)) ∧ (¬ ((1 : Int) = 0) → (Q (some (.inl (-1))) g5)))) ∧ ((x2 = 1 → (((1 : Int) = 0 → ((0 ≤ x1 ∧ x1 < 4) ∧ ((0 ≤ r6 ∧ r6 < 40) ∧ (am_R (am_prog scr) d f_Stage_whyNot 0 [some (.inr (.inr ((9 : Nat) : Int))), some (.inr (.inr ((27 : Nat) : Int))), some (.inr (.inl (g5.2.2.2 ((95 + 2 * x1.toNat) + 1) r6.toNat))), none, none, none] [] g5 (fun v g22 => ∃ r23 : Int, v = some (.inl r23) ∧ wf g22 ∧ (Q (some (.inl r23)) g22)))))) ∧ (¬ ((1 : Int) = 0) → (Q (some (.inl 0)) g5)))) ∧ ((x2 = 2 → (Q (some (.inl (g5.2.2.2 27 4))) g5)) ∧ ((¬ x2 = 0 ∧ ¬ x2 = 1 ∧ ¬ x2 = 2) → (Q (some (.inl (am_w ((am_w (10 * (g5.2.2.2 27 6))) + (g5.2.2.2 27 5))))) g5)))))))))))))) ∧ (¬ (r2 = 0) → (Q (some (.inl r2)) g1)))))) ∧ (¬ (x2 ≤ 3) → (Q (some (.inl (-2))) h))))) : am_R (am_prog scr) (d + 1) f_S_judge 0 [some (.inr (.inr ((0 : Nat) : Int))), some (.inl x1), some (.inl x2), none, none, none] [] h Q := by
  have hp : ∀ k, (am_prog scr).1 f_S_judge k = c_S_judge k := fun _ => rfl
  refine am_R.next ((hp 0).trans rfl) rfl ?_
  refine r_if ((hp 1).trans rfl) (fun c29 => ?_) (fun c29 => ?_)
  · have H := H.1 c29
    refine am_R.next ((hp 9).trans rfl) rfl ?_
    exact am_R.ret ((hp 11).trans rfl) rfl H
  · have H := H.2 c29
    refine am_R.next ((hp 4).trans rfl) rfl ?_
    refine am_R.next ((hp 5).trans rfl) rfl ?_
    refine r_ic ((hp 6).trans rfl) (fun c28 => ?_) (fun c28 => ?_)
    · have H := H.1 c28
      refine am_R.next ((hp 12).trans rfl) rfl ?_
      refine am_R.next ((hp 13).trans rfl) rfl ?_
      refine r_cv (bs := [.inl x1]) (st' := []) ((hp 14).trans rfl) (hw.o (i := 0) (by decide) rfl) rfl rfl (Nat.le_of_ble_eq_true rfl) (Nat.le_of_ble_eq_true rfl) (am_R.post H (fun v g1 hq => ?_))
      obtain ⟨r2, rfl, hw, H⟩ := hq
      change am_R _ _ _ _ _ [.inl r2] _ _
      refine am_R.next (lv' := [some (.inr (.inr ((0 : Nat) : Int))), some (.inl x1), some (.inl x2), some (.inl r2), none, none]) ((hp 17).trans rfl) rfl ?_
      refine am_R.next ((hp 18).trans rfl) rfl ?_
      refine r_if ((hp 19).trans rfl) (fun c27 => ?_) (fun c27 => ?_)
      · have H := H.1 c27
        refine am_R.next ((hp 24).trans rfl) rfl ?_
        refine r_getR ((hp 25).trans rfl) (hw.o (i := 0) (by decide) rfl) (hw.r wr_0_13) ?_
        refine am_R.next ((hp 28).trans rfl) rfl ?_
        refine r_getR ((hp 29).trans rfl) (hw.o (i := 0) (by decide) rfl) (hw.r wr_0_12) ?_
        refine r_cv (bs := [.inr (.inr ((24 : Nat) : Int))]) (st' := []) ((hp 32).trans rfl) (hw.o (i := 27) (by decide) rfl) rfl rfl (Nat.le_of_ble_eq_true rfl) (Nat.le_of_ble_eq_true rfl) (am_R.post H (fun v g3 hq => ?_))
        obtain ⟨rfl, hw, H⟩ := hq
        change am_R _ _ _ _ _ [] _ _
        refine am_R.next ((hp 35).trans rfl) rfl ?_
        refine am_R.next ((hp 36).trans rfl) rfl ?_
        refine r_getR ((hp 37).trans rfl) (hw.o (i := 0) (by decide) rfl) (hw.r wr_0_13) ?_
        refine am_R.next ((hp 40).trans rfl) rfl ?_
        refine r_getR ((hp 41).trans rfl) (hw.o (i := 0) (by decide) rfl) (hw.r wr_0_15) ?_
        refine am_R.next ((hp 44).trans rfl) rfl ?_
        obtain ⟨c4, H⟩ := H
        refine r_aald ((hp 45).trans rfl) (hw.a (i := 17) (by decide) rfl c4.1 c4.2) (tr_all hw c4).2 ?_
        refine r_cv (bs := [.inr (.inr ((27 : Nat) : Int)), .inr (.inr (((95 + 2 * x1.toNat) : Nat) : Int))]) (st' := []) ((hp 46).trans rfl) (hw.o (i := 0) (by decide) rfl) rfl rfl (Nat.le_of_ble_eq_true rfl) (Nat.le_of_ble_eq_true rfl) (am_R.post H (fun v g5 hq => ?_))
        obtain ⟨r6, rfl, hw, H⟩ := hq
        change am_R _ _ _ _ _ [.inl r6] _ _
        refine am_R.next (lv' := [some (.inr (.inr ((0 : Nat) : Int))), some (.inl x1), some (.inl x2), some (.inl r2), some (.inl r6), none]) ((hp 49).trans rfl) rfl ?_
        refine am_R.next ((hp 51).trans rfl) rfl ?_
        refine am_R.next ((hp 53).trans rfl) rfl ?_
        refine r_getR ((hp 54).trans rfl) (hw.o (i := 0) (by decide) rfl) (hw.r wr_0_15) ?_
        refine am_R.next ((hp 57).trans rfl) rfl ?_
        obtain ⟨c7, H⟩ := H
        refine r_aald ((hp 58).trans rfl) (hw.a (i := 17) (by decide) rfl c7.1 c7.2) (tr_all hw c7).2 ?_
        refine r_getI ((hp 59).trans rfl) (tr_o (tr_all hw c7).1 hw) ?_
        refine r_ic ((hp 62).trans rfl) (fun c26 => ?_) (fun c26 => ?_)
        · have H := H.1 c26
          refine am_R.next ((hp 69).trans rfl) rfl ?_
          refine am_R.next (lv' := [some (.inr (.inr ((0 : Nat) : Int))), some (.inl x1), some (.inl x2), some (.inl r2), some (.inl r6), some (.inl 0)]) ((hp 70).trans rfl) rfl ?_
          refine am_R.next ((hp 72).trans rfl) rfl ?_
          refine am_R.next ((hp 73).trans rfl) rfl ?_
          change am_R _ _ _ (am_tsw 0 2 [100, 112, 145] 153 x2) _ _ _ _
          by_cases c8 : x2 = 0
          · have H := H.1 c8
            rw [show am_tsw 0 2 [100, 112, 145] 153 x2 = 100 by rw [c8]; rfl]
            refine am_R.next ((hp 100).trans rfl) rfl ?_
            refine r_if ((hp 102).trans rfl) (fun c16 => ?_) (fun c16 => ?_)
            · have H := H.1 c16
              refine am_R.next ((hp 109).trans rfl) rfl ?_
              exact am_R.ret ((hp 111).trans rfl) rfl H
            · have H := H.2 c16
              refine am_R.next ((hp 105).trans rfl) rfl ?_
              refine am_R.next ((hp 106).trans rfl) rfl ?_
              exact am_R.ret ((hp 111).trans rfl) rfl H
          · have H := H.2
            by_cases c9 : x2 = 1
            · have H := H.1 c9
              rw [show am_tsw 0 2 [100, 112, 145] 153 x2 = 112 by rw [c9]; rfl]
              refine am_R.next ((hp 112).trans rfl) rfl ?_
              refine r_if ((hp 114).trans rfl) (fun c15 => ?_) (fun c15 => ?_)
              · have H := H.1 c15
                refine am_R.next ((hp 121).trans rfl) rfl ?_
                refine r_getR ((hp 122).trans rfl) (hw.o (i := 0) (by decide) rfl) (hw.r wr_0_7) ?_
                refine am_R.next ((hp 125).trans rfl) rfl ?_
                refine r_getR ((hp 126).trans rfl) (hw.o (i := 0) (by decide) rfl) (hw.r wr_0_13) ?_
                refine am_R.next ((hp 129).trans rfl) rfl ?_
                refine r_getR ((hp 130).trans rfl) (hw.o (i := 0) (by decide) rfl) (hw.r wr_0_15) ?_
                refine am_R.next ((hp 133).trans rfl) rfl ?_
                obtain ⟨c11, H⟩ := H
                refine r_aald ((hp 134).trans rfl) (hw.a (i := 17) (by decide) rfl c11.1 c11.2) (tr_all hw c11).2 ?_
                refine r_getR ((hp 135).trans rfl) (tr_o (tr_all hw c11).1 hw) (tr_h (tr_all hw c11).1 hw) ?_
                refine am_R.next ((hp 138).trans rfl) rfl ?_
                obtain ⟨c12, H⟩ := H
                refine r_lald ((hp 140).trans rfl) (tr_ha (tr_all hw c11).1 hw c12.1 c12.2) ?_
                refine r_cv (bs := [.inr (.inr ((27 : Nat) : Int)), .inr (.inl (g5.2.2.2 ((95 + 2 * x1.toNat) + 1) r6.toNat))]) (st' := []) ((hp 141).trans rfl) (hw.o (i := 9) (by decide) rfl) rfl rfl (Nat.le_of_ble_eq_true rfl) (Nat.le_of_ble_eq_true rfl) (am_R.post H (fun v g13 hq => ?_))
                obtain ⟨r14, rfl, hw, H⟩ := hq
                change am_R _ _ _ _ _ [.inl r14] _ _
                exact am_R.ret ((hp 144).trans rfl) rfl H
              · have H := H.2 c15
                refine am_R.next ((hp 117).trans rfl) rfl ?_
                refine am_R.next ((hp 118).trans rfl) rfl ?_
                exact am_R.ret ((hp 144).trans rfl) rfl H
            · have H := H.2
              by_cases c10 : x2 = 2
              · have H := H.1 c10
                rw [show am_tsw 0 2 [100, 112, 145] 153 x2 = 145 by rw [c10]; rfl]
                refine am_R.next ((hp 145).trans rfl) rfl ?_
                refine r_getR ((hp 146).trans rfl) (hw.o (i := 0) (by decide) rfl) (hw.r wr_0_13) ?_
                refine r_getI ((hp 149).trans rfl) (hw.o (i := 27) (by decide) rfl) ?_
                exact am_R.ret ((hp 152).trans rfl) rfl H
              · have H := H.2
                have H := H ⟨c8, c9, c10⟩
                rw [show am_tsw 0 2 [100, 112, 145] 153 x2 = 153 from tsw_d (by decide) (fun j hj => match j, hj with | 0, _ => Or.inr (fun e => c8 (e.trans (by decide))) | 1, _ => Or.inr (fun e => c9 (e.trans (by decide))) | 2, _ => Or.inr (fun e => c10 (e.trans (by decide))) | n + 3, hj => absurd hj (Nat.not_lt.mpr (Nat.le_add_left 3 n)))]
                refine am_R.next ((hp 153).trans rfl) rfl ?_
                refine am_R.next ((hp 155).trans rfl) rfl ?_
                refine r_getR ((hp 156).trans rfl) (hw.o (i := 0) (by decide) rfl) (hw.r wr_0_13) ?_
                refine r_getI ((hp 159).trans rfl) (hw.o (i := 27) (by decide) rfl) ?_
                refine am_R.next ((hp 162).trans rfl) rfl ?_
                refine am_R.next ((hp 163).trans rfl) rfl ?_
                refine r_getR ((hp 164).trans rfl) (hw.o (i := 0) (by decide) rfl) (hw.r wr_0_13) ?_
                refine r_getI ((hp 167).trans rfl) (hw.o (i := 27) (by decide) rfl) ?_
                refine am_R.next ((hp 170).trans rfl) rfl ?_
                exact am_R.ret ((hp 171).trans rfl) rfl H
        · have H := H.2 c26
          refine am_R.next ((hp 65).trans rfl) rfl ?_
          refine am_R.next ((hp 66).trans rfl) rfl ?_
          refine am_R.next (lv' := [some (.inr (.inr ((0 : Nat) : Int))), some (.inl x1), some (.inl x2), some (.inl r2), some (.inl r6), some (.inl 1)]) ((hp 70).trans rfl) rfl ?_
          refine am_R.next ((hp 72).trans rfl) rfl ?_
          refine am_R.next ((hp 73).trans rfl) rfl ?_
          change am_R _ _ _ (am_tsw 0 2 [100, 112, 145] 153 x2) _ _ _ _
          by_cases c17 : x2 = 0
          · have H := H.1 c17
            rw [show am_tsw 0 2 [100, 112, 145] 153 x2 = 100 by rw [c17]; rfl]
            refine am_R.next ((hp 100).trans rfl) rfl ?_
            refine r_if ((hp 102).trans rfl) (fun c25 => ?_) (fun c25 => ?_)
            · have H := H.1 c25
              refine am_R.next ((hp 109).trans rfl) rfl ?_
              exact am_R.ret ((hp 111).trans rfl) rfl H
            · have H := H.2 c25
              refine am_R.next ((hp 105).trans rfl) rfl ?_
              refine am_R.next ((hp 106).trans rfl) rfl ?_
              exact am_R.ret ((hp 111).trans rfl) rfl H
          · have H := H.2
            by_cases c18 : x2 = 1
            · have H := H.1 c18
              rw [show am_tsw 0 2 [100, 112, 145] 153 x2 = 112 by rw [c18]; rfl]
              refine am_R.next ((hp 112).trans rfl) rfl ?_
              refine r_if ((hp 114).trans rfl) (fun c24 => ?_) (fun c24 => ?_)
              · have H := H.1 c24
                refine am_R.next ((hp 121).trans rfl) rfl ?_
                refine r_getR ((hp 122).trans rfl) (hw.o (i := 0) (by decide) rfl) (hw.r wr_0_7) ?_
                refine am_R.next ((hp 125).trans rfl) rfl ?_
                refine r_getR ((hp 126).trans rfl) (hw.o (i := 0) (by decide) rfl) (hw.r wr_0_13) ?_
                refine am_R.next ((hp 129).trans rfl) rfl ?_
                refine r_getR ((hp 130).trans rfl) (hw.o (i := 0) (by decide) rfl) (hw.r wr_0_15) ?_
                refine am_R.next ((hp 133).trans rfl) rfl ?_
                obtain ⟨c20, H⟩ := H
                refine r_aald ((hp 134).trans rfl) (hw.a (i := 17) (by decide) rfl c20.1 c20.2) (tr_all hw c20).2 ?_
                refine r_getR ((hp 135).trans rfl) (tr_o (tr_all hw c20).1 hw) (tr_h (tr_all hw c20).1 hw) ?_
                refine am_R.next ((hp 138).trans rfl) rfl ?_
                obtain ⟨c21, H⟩ := H
                refine r_lald ((hp 140).trans rfl) (tr_ha (tr_all hw c20).1 hw c21.1 c21.2) ?_
                refine r_cv (bs := [.inr (.inr ((27 : Nat) : Int)), .inr (.inl (g5.2.2.2 ((95 + 2 * x1.toNat) + 1) r6.toNat))]) (st' := []) ((hp 141).trans rfl) (hw.o (i := 9) (by decide) rfl) rfl rfl (Nat.le_of_ble_eq_true rfl) (Nat.le_of_ble_eq_true rfl) (am_R.post H (fun v g22 hq => ?_))
                obtain ⟨r23, rfl, hw, H⟩ := hq
                change am_R _ _ _ _ _ [.inl r23] _ _
                exact am_R.ret ((hp 144).trans rfl) rfl H
              · have H := H.2 c24
                refine am_R.next ((hp 117).trans rfl) rfl ?_
                refine am_R.next ((hp 118).trans rfl) rfl ?_
                exact am_R.ret ((hp 144).trans rfl) rfl H
            · have H := H.2
              by_cases c19 : x2 = 2
              · have H := H.1 c19
                rw [show am_tsw 0 2 [100, 112, 145] 153 x2 = 145 by rw [c19]; rfl]
                refine am_R.next ((hp 145).trans rfl) rfl ?_
                refine r_getR ((hp 146).trans rfl) (hw.o (i := 0) (by decide) rfl) (hw.r wr_0_13) ?_
                refine r_getI ((hp 149).trans rfl) (hw.o (i := 27) (by decide) rfl) ?_
                exact am_R.ret ((hp 152).trans rfl) rfl H
              · have H := H.2
                have H := H ⟨c17, c18, c19⟩
                rw [show am_tsw 0 2 [100, 112, 145] 153 x2 = 153 from tsw_d (by decide) (fun j hj => match j, hj with | 0, _ => Or.inr (fun e => c17 (e.trans (by decide))) | 1, _ => Or.inr (fun e => c18 (e.trans (by decide))) | 2, _ => Or.inr (fun e => c19 (e.trans (by decide))) | n + 3, hj => absurd hj (Nat.not_lt.mpr (Nat.le_add_left 3 n)))]
                refine am_R.next ((hp 153).trans rfl) rfl ?_
                refine am_R.next ((hp 155).trans rfl) rfl ?_
                refine r_getR ((hp 156).trans rfl) (hw.o (i := 0) (by decide) rfl) (hw.r wr_0_13) ?_
                refine r_getI ((hp 159).trans rfl) (hw.o (i := 27) (by decide) rfl) ?_
                refine am_R.next ((hp 162).trans rfl) rfl ?_
                refine am_R.next ((hp 163).trans rfl) rfl ?_
                refine r_getR ((hp 164).trans rfl) (hw.o (i := 0) (by decide) rfl) (hw.r wr_0_13) ?_
                refine r_getI ((hp 167).trans rfl) (hw.o (i := 27) (by decide) rfl) ?_
                refine am_R.next ((hp 170).trans rfl) rfl ?_
                exact am_R.ret ((hp 171).trans rfl) rfl H
      · have H := H.2 c27
        refine am_R.next ((hp 22).trans rfl) rfl ?_
        exact am_R.ret ((hp 23).trans rfl) rfl H
    · have H := H.2 c28
      refine am_R.next ((hp 9).trans rfl) rfl ?_
      exact am_R.ret ((hp 11).trans rfl) rfl H
theorem w_S_count_0 {scr : Nat × (Nat → Int)} {d : Nat} {h : am_H} {Q : Option am_V → am_H → Prop} {x1 : Int} (hs : am_sc scr) (hw : wf h) (H : (x1 = 0 → (am_isO h (h.2.2.2 24 0) 1 ∧ (Q (some (.inl (h.2.2.2 ((h.2.2.2 24 0).toNat) 1))) h))) ∧ ((x1 = 1 → (am_isO h (h.2.2.2 24 0) 1 ∧ (Q (some (.inl (h.2.2.2 ((h.2.2.2 24 0).toNat) 4))) h))) ∧ ((x1 = 2 → (am_isO h (h.2.2.2 24 0) 1 ∧ (Q (some (.inl (h.2.2.2 ((h.2.2.2 24 0).toNat) 2))) h))) ∧ ((x1 = 3 → (am_isO h (h.2.2.2 24 0) 1 ∧ (Q (some (.inl (h.2.2.2 ((h.2.2.2 24 0).toNat) 3))) h))) ∧ ((x1 = 4 → (Q (some (.inl (h.2.2.2 24 4))) h)) ∧ ((x1 = 5 → (Q (some (.inl (h.2.2.2 24 5))) h)) ∧ ((x1 = 6 → (Q (some (.inl (h.2.2.2 24 6))) h)) ∧ ((x1 = 7 → (am_R (am_prog scr) d f_Play_goesOn 0 [some (.inr (.inr ((24 : Nat) : Int)))] [] h (fun v g15 => ∃ r16 : Int, v = some (.inl r16) ∧ wf g15 ∧ ((r16 = 0 → (((g15.2.2.2 24 8) = 0 → (Q (some (.inl 1)) g15)) ∧ (¬ ((g15.2.2.2 24 8) = 0) → (Q (some (.inl 2)) g15)))) ∧ (¬ (r16 = 0) → (Q (some (.inl 0)) g15)))))) ∧ ((x1 = 8 → (Q (some (.inl (h.2.2.2 24 3))) h)) ∧ ((x1 = 9 → (Q (some (.inl (h.2.2.2 24 7))) h)) ∧ ((x1 = 10 → (Q (some (.inl (h.2.2.2 63 2))) h)) ∧ ((x1 = 11 → (Q (some (.inl (h.2.2.2 0 1))) h)) ∧ ((x1 = 12 → (am_isO h (h.2.2.2 24 0) 1 ∧ (Q (some (.inl (h.2.2.2 ((h.2.2.2 24 0).toNat) 11))) h))) ∧ ((¬ x1 = 0 ∧ ¬ x1 = 1 ∧ ¬ x1 = 2 ∧ ¬ x1 = 3 ∧ ¬ x1 = 4 ∧ ¬ x1 = 5 ∧ ¬ x1 = 6 ∧ ¬ x1 = 7 ∧ ¬ x1 = 8 ∧ ¬ x1 = 9 ∧ ¬ x1 = 10 ∧ ¬ x1 = 11 ∧ ¬ x1 = 12) → (Q (some (.inl (-1))) h))))))))))))))) : am_R (am_prog scr) (d + 1) f_S_count 0 [some (.inr (.inr ((0 : Nat) : Int))), some (.inl x1)] [] h Q := by
  have hp : ∀ k, (am_prog scr).1 f_S_count k = c_S_count k := fun _ => rfl
  refine am_R.next ((hp 0).trans rfl) rfl ?_
  refine am_R.next ((hp 1).trans rfl) rfl ?_
  change am_R _ _ _ (am_tsw 0 12 [68, 79, 90, 101, 112, 120, 128, 136, 166, 174, 182, 190, 195] 206 x1) _ _ _ _
  by_cases c1 : x1 = 0
  · have H := H.1 c1
    rw [show am_tsw 0 12 [68, 79, 90, 101, 112, 120, 128, 136, 166, 174, 182, 190, 195] 206 x1 = 68 by rw [c1]; rfl]
    refine am_R.next ((hp 68).trans rfl) rfl ?_
    refine r_getR ((hp 69).trans rfl) (hw.o (i := 0) (by decide) rfl) (hw.r wr_0_12) ?_
    refine r_getR ((hp 72).trans rfl) (hw.o (i := 24) (by decide) rfl) rfl ?_
    obtain ⟨c22, H⟩ := H
    refine r_getI ((hp 75).trans rfl) c22 ?_
    exact am_R.ret ((hp 78).trans rfl) rfl H
  · have H := H.2
    by_cases c2 : x1 = 1
    · have H := H.1 c2
      rw [show am_tsw 0 12 [68, 79, 90, 101, 112, 120, 128, 136, 166, 174, 182, 190, 195] 206 x1 = 79 by rw [c2]; rfl]
      refine am_R.next ((hp 79).trans rfl) rfl ?_
      refine r_getR ((hp 80).trans rfl) (hw.o (i := 0) (by decide) rfl) (hw.r wr_0_12) ?_
      refine r_getR ((hp 83).trans rfl) (hw.o (i := 24) (by decide) rfl) rfl ?_
      obtain ⟨c21, H⟩ := H
      refine r_getI ((hp 86).trans rfl) c21 ?_
      exact am_R.ret ((hp 89).trans rfl) rfl H
    · have H := H.2
      by_cases c3 : x1 = 2
      · have H := H.1 c3
        rw [show am_tsw 0 12 [68, 79, 90, 101, 112, 120, 128, 136, 166, 174, 182, 190, 195] 206 x1 = 90 by rw [c3]; rfl]
        refine am_R.next ((hp 90).trans rfl) rfl ?_
        refine r_getR ((hp 91).trans rfl) (hw.o (i := 0) (by decide) rfl) (hw.r wr_0_12) ?_
        refine r_getR ((hp 94).trans rfl) (hw.o (i := 24) (by decide) rfl) rfl ?_
        obtain ⟨c20, H⟩ := H
        refine r_getI ((hp 97).trans rfl) c20 ?_
        exact am_R.ret ((hp 100).trans rfl) rfl H
      · have H := H.2
        by_cases c4 : x1 = 3
        · have H := H.1 c4
          rw [show am_tsw 0 12 [68, 79, 90, 101, 112, 120, 128, 136, 166, 174, 182, 190, 195] 206 x1 = 101 by rw [c4]; rfl]
          refine am_R.next ((hp 101).trans rfl) rfl ?_
          refine r_getR ((hp 102).trans rfl) (hw.o (i := 0) (by decide) rfl) (hw.r wr_0_12) ?_
          refine r_getR ((hp 105).trans rfl) (hw.o (i := 24) (by decide) rfl) rfl ?_
          obtain ⟨c19, H⟩ := H
          refine r_getI ((hp 108).trans rfl) c19 ?_
          exact am_R.ret ((hp 111).trans rfl) rfl H
        · have H := H.2
          by_cases c5 : x1 = 4
          · have H := H.1 c5
            rw [show am_tsw 0 12 [68, 79, 90, 101, 112, 120, 128, 136, 166, 174, 182, 190, 195] 206 x1 = 112 by rw [c5]; rfl]
            refine am_R.next ((hp 112).trans rfl) rfl ?_
            refine r_getR ((hp 113).trans rfl) (hw.o (i := 0) (by decide) rfl) (hw.r wr_0_12) ?_
            refine r_getI ((hp 116).trans rfl) (hw.o (i := 24) (by decide) rfl) ?_
            exact am_R.ret ((hp 119).trans rfl) rfl H
          · have H := H.2
            by_cases c6 : x1 = 5
            · have H := H.1 c6
              rw [show am_tsw 0 12 [68, 79, 90, 101, 112, 120, 128, 136, 166, 174, 182, 190, 195] 206 x1 = 120 by rw [c6]; rfl]
              refine am_R.next ((hp 120).trans rfl) rfl ?_
              refine r_getR ((hp 121).trans rfl) (hw.o (i := 0) (by decide) rfl) (hw.r wr_0_12) ?_
              refine r_getI ((hp 124).trans rfl) (hw.o (i := 24) (by decide) rfl) ?_
              exact am_R.ret ((hp 127).trans rfl) rfl H
            · have H := H.2
              by_cases c7 : x1 = 6
              · have H := H.1 c7
                rw [show am_tsw 0 12 [68, 79, 90, 101, 112, 120, 128, 136, 166, 174, 182, 190, 195] 206 x1 = 128 by rw [c7]; rfl]
                refine am_R.next ((hp 128).trans rfl) rfl ?_
                refine r_getR ((hp 129).trans rfl) (hw.o (i := 0) (by decide) rfl) (hw.r wr_0_12) ?_
                refine r_getI ((hp 132).trans rfl) (hw.o (i := 24) (by decide) rfl) ?_
                exact am_R.ret ((hp 135).trans rfl) rfl H
              · have H := H.2
                by_cases c8 : x1 = 7
                · have H := H.1 c8
                  rw [show am_tsw 0 12 [68, 79, 90, 101, 112, 120, 128, 136, 166, 174, 182, 190, 195] 206 x1 = 136 by rw [c8]; rfl]
                  refine am_R.next ((hp 136).trans rfl) rfl ?_
                  refine r_getR ((hp 137).trans rfl) (hw.o (i := 0) (by decide) rfl) (hw.r wr_0_12) ?_
                  refine r_cv (bs := []) (st' := []) ((hp 140).trans rfl) (hw.o (i := 24) (by decide) rfl) rfl rfl (Nat.le_of_ble_eq_true rfl) (Nat.le_of_ble_eq_true rfl) (am_R.post H (fun v g15 hq => ?_))
                  obtain ⟨r16, rfl, hw, H⟩ := hq
                  change am_R _ _ _ _ _ [.inl r16] _ _
                  refine r_if ((hp 143).trans rfl) (fun c18 => ?_) (fun c18 => ?_)
                  · have H := H.1 c18
                    refine am_R.next ((hp 150).trans rfl) rfl ?_
                    refine r_getR ((hp 151).trans rfl) (hw.o (i := 0) (by decide) rfl) (hw.r wr_0_12) ?_
                    refine r_getI ((hp 154).trans rfl) (hw.o (i := 24) (by decide) rfl) ?_
                    refine r_if ((hp 157).trans rfl) (fun c17 => ?_) (fun c17 => ?_)
                    · have H := H.1 c17
                      refine am_R.next ((hp 164).trans rfl) rfl ?_
                      exact am_R.ret ((hp 165).trans rfl) rfl H
                    · have H := H.2 c17
                      refine am_R.next ((hp 160).trans rfl) rfl ?_
                      refine am_R.next ((hp 161).trans rfl) rfl ?_
                      exact am_R.ret ((hp 165).trans rfl) rfl H
                  · have H := H.2 c18
                    refine am_R.next ((hp 146).trans rfl) rfl ?_
                    refine am_R.next ((hp 147).trans rfl) rfl ?_
                    exact am_R.ret ((hp 165).trans rfl) rfl H
                · have H := H.2
                  by_cases c9 : x1 = 8
                  · have H := H.1 c9
                    rw [show am_tsw 0 12 [68, 79, 90, 101, 112, 120, 128, 136, 166, 174, 182, 190, 195] 206 x1 = 166 by rw [c9]; rfl]
                    refine am_R.next ((hp 166).trans rfl) rfl ?_
                    refine r_getR ((hp 167).trans rfl) (hw.o (i := 0) (by decide) rfl) (hw.r wr_0_12) ?_
                    refine r_getI ((hp 170).trans rfl) (hw.o (i := 24) (by decide) rfl) ?_
                    exact am_R.ret ((hp 173).trans rfl) rfl H
                  · have H := H.2
                    by_cases c10 : x1 = 9
                    · have H := H.1 c10
                      rw [show am_tsw 0 12 [68, 79, 90, 101, 112, 120, 128, 136, 166, 174, 182, 190, 195] 206 x1 = 174 by rw [c10]; rfl]
                      refine am_R.next ((hp 174).trans rfl) rfl ?_
                      refine r_getR ((hp 175).trans rfl) (hw.o (i := 0) (by decide) rfl) (hw.r wr_0_12) ?_
                      refine r_getI ((hp 178).trans rfl) (hw.o (i := 24) (by decide) rfl) ?_
                      exact am_R.ret ((hp 181).trans rfl) rfl H
                    · have H := H.2
                      by_cases c11 : x1 = 10
                      · have H := H.1 c11
                        rw [show am_tsw 0 12 [68, 79, 90, 101, 112, 120, 128, 136, 166, 174, 182, 190, 195] 206 x1 = 182 by rw [c11]; rfl]
                        refine am_R.next ((hp 182).trans rfl) rfl ?_
                        refine r_getR ((hp 183).trans rfl) (hw.o (i := 0) (by decide) rfl) (hw.r wr_0_14) ?_
                        refine r_getI ((hp 186).trans rfl) (hw.o (i := 63) (by decide) rfl) ?_
                        exact am_R.ret ((hp 189).trans rfl) rfl H
                      · have H := H.2
                        by_cases c12 : x1 = 11
                        · have H := H.1 c12
                          rw [show am_tsw 0 12 [68, 79, 90, 101, 112, 120, 128, 136, 166, 174, 182, 190, 195] 206 x1 = 190 by rw [c12]; rfl]
                          refine am_R.next ((hp 190).trans rfl) rfl ?_
                          refine r_getI ((hp 191).trans rfl) (hw.o (i := 0) (by decide) rfl) ?_
                          exact am_R.ret ((hp 194).trans rfl) rfl H
                        · have H := H.2
                          by_cases c13 : x1 = 12
                          · have H := H.1 c13
                            rw [show am_tsw 0 12 [68, 79, 90, 101, 112, 120, 128, 136, 166, 174, 182, 190, 195] 206 x1 = 195 by rw [c13]; rfl]
                            refine am_R.next ((hp 195).trans rfl) rfl ?_
                            refine r_getR ((hp 196).trans rfl) (hw.o (i := 0) (by decide) rfl) (hw.r wr_0_12) ?_
                            refine r_getR ((hp 199).trans rfl) (hw.o (i := 24) (by decide) rfl) rfl ?_
                            obtain ⟨c14, H⟩ := H
                            refine r_getI ((hp 202).trans rfl) c14 ?_
                            exact am_R.ret ((hp 205).trans rfl) rfl H
                          · have H := H.2
                            have H := H ⟨c1, c2, c3, c4, c5, c6, c7, c8, c9, c10, c11, c12, c13⟩
                            rw [show am_tsw 0 12 [68, 79, 90, 101, 112, 120, 128, 136, 166, 174, 182, 190, 195] 206 x1 = 206 from tsw_d (by decide) (fun j hj => match j, hj with | 0, _ => Or.inr (fun e => c1 (e.trans (by decide))) | 1, _ => Or.inr (fun e => c2 (e.trans (by decide))) | 2, _ => Or.inr (fun e => c3 (e.trans (by decide))) | 3, _ => Or.inr (fun e => c4 (e.trans (by decide))) | 4, _ => Or.inr (fun e => c5 (e.trans (by decide))) | 5, _ => Or.inr (fun e => c6 (e.trans (by decide))) | 6, _ => Or.inr (fun e => c7 (e.trans (by decide))) | 7, _ => Or.inr (fun e => c8 (e.trans (by decide))) | 8, _ => Or.inr (fun e => c9 (e.trans (by decide))) | 9, _ => Or.inr (fun e => c10 (e.trans (by decide))) | 10, _ => Or.inr (fun e => c11 (e.trans (by decide))) | 11, _ => Or.inr (fun e => c12 (e.trans (by decide))) | 12, _ => Or.inr (fun e => c13 (e.trans (by decide))) | n + 13, hj => absurd hj (Nat.not_lt.mpr (Nat.le_add_left 13 n)))]
                            refine am_R.next ((hp 206).trans rfl) rfl ?_
                            exact am_R.ret ((hp 207).trans rfl) rfl H
theorem w_Stage_combined_0 {scr : Nat × (Nat → Int)} {d : Nat} {h : am_H} {Q : Option am_V → am_H → Prop} {x0 x1 x3 : Int} (hs : am_sc scr) (hw : wf h) (H : (x0 = (-15) → ((x1 = 0 → (am_R (am_prog scr) d f_Stage_combined 136 [some (.inl x0), some (.inr (.inl x1)), none, some (.inr (.inl x3)), none, none, none] [] h Q)) ∧ (¬ (x1 = 0) → ((x3 = 0 → (am_R (am_prog scr) d f_Stage_combined 136 [some (.inl x0), some (.inr (.inl x1)), none, some (.inr (.inl x3)), none, none, none] [] h Q)) ∧ (¬ (x3 = 0) → (am_R (am_prog scr) d f_Stage_combined 161 [some (.inl x0), some (.inr (.inl x1)), none, some (.inr (.inl x3)), none, some (.inr (.inl 1)), none] [] h Q)))))) ∧ ((x0 = (-13) → ((¬ (x3 < x1) → (am_R (am_prog scr) d f_Stage_combined 161 [some (.inl x0), some (.inr (.inl x1)), none, some (.inr (.inl x3)), none, some (.inr (.inl 0)), none] [] h Q)) ∧ (x3 < x1 → (am_R (am_prog scr) d f_Stage_combined 161 [some (.inl x0), some (.inr (.inl x1)), none, some (.inr (.inl x3)), none, some (.inr (.inl 1)), none] [] h Q)))) ∧ ((x0 = (-12) → ((¬ (x1 < x3) → (am_R (am_prog scr) d f_Stage_combined 161 [some (.inl x0), some (.inr (.inl x1)), none, some (.inr (.inl x3)), none, some (.inr (.inl 0)), none] [] h Q)) ∧ (x1 < x3 → (am_R (am_prog scr) d f_Stage_combined 161 [some (.inl x0), some (.inr (.inl x1)), none, some (.inr (.inl x3)), none, some (.inr (.inl 1)), none] [] h Q)))) ∧ ((x0 = (-11) → ((¬ (x1 = x3) → (am_R (am_prog scr) d f_Stage_combined 161 [some (.inl x0), some (.inr (.inl x1)), none, some (.inr (.inl x3)), none, some (.inr (.inl 0)), none] [] h Q)) ∧ (x1 = x3 → (am_R (am_prog scr) d f_Stage_combined 161 [some (.inl x0), some (.inr (.inl x1)), none, some (.inr (.inl x3)), none, some (.inr (.inl 1)), none] [] h Q)))) ∧ ((x0 = (-10) → (∀ y12 : Int, y12 = am_W (x1 * x3) → (am_R (am_prog scr) d f_Stage_combined 161 [some (.inl x0), some (.inr (.inl x1)), none, some (.inr (.inl x3)), none, some (.inr (.inl y12)), none] [] h Q))) ∧ ((x0 = (-9) → (∀ y11 : Int, y11 = am_W (x1 - x3) → (am_R (am_prog scr) d f_Stage_combined 161 [some (.inl x0), some (.inr (.inl x1)), none, some (.inr (.inl x3)), none, some (.inr (.inl y11)), none] [] h Q))) ∧ ((x0 = (-8) → (∀ y10 : Int, y10 = am_W (x1 + x3) → (am_R (am_prog scr) d f_Stage_combined 161 [some (.inl x0), some (.inr (.inl x1)), none, some (.inr (.inl x3)), none, some (.inr (.inl y10)), none] [] h Q))) ∧ ((¬ x0 = (-15) ∧ ¬ x0 = (-13) ∧ ¬ x0 = (-12) ∧ ¬ x0 = (-11) ∧ ¬ x0 = (-10) ∧ ¬ x0 = (-9) ∧ ¬ x0 = (-8)) → ((¬ (x1 = 0) → (am_R (am_prog scr) d f_Stage_combined 154 [some (.inl x0), some (.inr (.inl x1)), none, some (.inr (.inl x3)), none, none, none] [] h Q)) ∧ (x1 = 0 → ((x3 = 0 → (am_R (am_prog scr) d f_Stage_combined 161 [some (.inl x0), some (.inr (.inl x1)), none, some (.inr (.inl x3)), none, some (.inr (.inl 0)), none] [] h Q)) ∧ (¬ (x3 = 0) → (am_R (am_prog scr) d f_Stage_combined 154 [some (.inl x0), some (.inr (.inl x1)), none, some (.inr (.inl x3)), none, none, none] [] h Q))))))))))))) : am_R (am_prog scr) d f_Stage_combined 0 [some (.inl x0), some (.inr (.inl x1)), none, some (.inr (.inl x3)), none, none, none] [] h Q := by
  have hp : ∀ k, (am_prog scr).1 f_Stage_combined k = c_Stage_combined k := fun _ => rfl
  refine am_R.next ((hp 0).trans rfl) rfl ?_
  refine am_R.next ((hp 1).trans rfl) rfl ?_
  change am_R _ _ _ (am_tsw (-15) (-8) [120, 142, 104, 88, 72, 64, 56, 48] 142 x0) _ _ _ _
  by_cases c3 : x0 = (-15)
  · have H := H.1 c3
    rw [show am_tsw (-15) (-8) [120, 142, 104, 88, 72, 64, 56, 48] 142 x0 = 120 by rw [c3]; rfl]
    refine am_R.next ((hp 120).trans rfl) rfl ?_
    refine am_R.next ((hp 121).trans rfl) rfl ?_
    refine am_R.next ((hp 122).trans rfl) rfl ?_
    refine r_if ((hp 123).trans rfl) (fun c17 => ?_) (fun c17 => ?_)
    · have H := H.1 (lc_eqt c17)
      exact H
    · have H := H.2 (lc_eqf c17)
      refine am_R.next ((hp 126).trans rfl) rfl ?_
      refine am_R.next ((hp 127).trans rfl) rfl ?_
      refine am_R.next ((hp 128).trans rfl) rfl ?_
      refine r_if ((hp 129).trans rfl) (fun c16 => ?_) (fun c16 => ?_)
      · have H := H.1 (lc_eqt c16)
        exact H
      · have H := H.2 (lc_eqf c16)
        refine am_R.next ((hp 132).trans rfl) rfl ?_
        refine am_R.next ((hp 133).trans rfl) rfl ?_
        refine am_R.next (lv' := [some (.inl x0), some (.inr (.inl x1)), none, some (.inr (.inl x3)), none, some (.inr (.inl 1)), none]) ((hp 137).trans rfl) rfl ?_
        refine am_R.next ((hp 139).trans rfl) rfl ?_
        exact H
  · have H := H.2
    by_cases c4 : x0 = (-13)
    · have H := H.1 c4
      rw [show am_tsw (-15) (-8) [120, 142, 104, 88, 72, 64, 56, 48] 142 x0 = 104 by rw [c4]; rfl]
      refine am_R.next ((hp 104).trans rfl) rfl ?_
      refine am_R.next ((hp 105).trans rfl) rfl ?_
      refine am_R.next ((hp 106).trans rfl) rfl ?_
      refine r_if ((hp 107).trans rfl) (fun c15 => ?_) (fun c15 => ?_)
      · have H := H.1 (lc_let c15)
        refine am_R.next ((hp 114).trans rfl) rfl ?_
        refine am_R.next (lv' := [some (.inl x0), some (.inr (.inl x1)), none, some (.inr (.inl x3)), none, some (.inr (.inl 0)), none]) ((hp 115).trans rfl) rfl ?_
        refine am_R.next ((hp 117).trans rfl) rfl ?_
        exact H
      · have H := H.2 (lc_lef c15)
        refine am_R.next ((hp 110).trans rfl) rfl ?_
        refine am_R.next ((hp 111).trans rfl) rfl ?_
        refine am_R.next (lv' := [some (.inl x0), some (.inr (.inl x1)), none, some (.inr (.inl x3)), none, some (.inr (.inl 1)), none]) ((hp 115).trans rfl) rfl ?_
        refine am_R.next ((hp 117).trans rfl) rfl ?_
        exact H
    · have H := H.2
      by_cases c5 : x0 = (-12)
      · have H := H.1 c5
        rw [show am_tsw (-15) (-8) [120, 142, 104, 88, 72, 64, 56, 48] 142 x0 = 88 by rw [c5]; rfl]
        refine am_R.next ((hp 88).trans rfl) rfl ?_
        refine am_R.next ((hp 89).trans rfl) rfl ?_
        refine am_R.next ((hp 90).trans rfl) rfl ?_
        refine r_if ((hp 91).trans rfl) (fun c14 => ?_) (fun c14 => ?_)
        · have H := H.1 (lc_get c14)
          refine am_R.next ((hp 98).trans rfl) rfl ?_
          refine am_R.next (lv' := [some (.inl x0), some (.inr (.inl x1)), none, some (.inr (.inl x3)), none, some (.inr (.inl 0)), none]) ((hp 99).trans rfl) rfl ?_
          refine am_R.next ((hp 101).trans rfl) rfl ?_
          exact H
        · have H := H.2 (lc_gef c14)
          refine am_R.next ((hp 94).trans rfl) rfl ?_
          refine am_R.next ((hp 95).trans rfl) rfl ?_
          refine am_R.next (lv' := [some (.inl x0), some (.inr (.inl x1)), none, some (.inr (.inl x3)), none, some (.inr (.inl 1)), none]) ((hp 99).trans rfl) rfl ?_
          refine am_R.next ((hp 101).trans rfl) rfl ?_
          exact H
      · have H := H.2
        by_cases c6 : x0 = (-11)
        · have H := H.1 c6
          rw [show am_tsw (-15) (-8) [120, 142, 104, 88, 72, 64, 56, 48] 142 x0 = 72 by rw [c6]; rfl]
          refine am_R.next ((hp 72).trans rfl) rfl ?_
          refine am_R.next ((hp 73).trans rfl) rfl ?_
          refine am_R.next ((hp 74).trans rfl) rfl ?_
          refine r_if ((hp 75).trans rfl) (fun c13 => ?_) (fun c13 => ?_)
          · have H := H.1 (lc_net c13)
            refine am_R.next ((hp 82).trans rfl) rfl ?_
            refine am_R.next (lv' := [some (.inl x0), some (.inr (.inl x1)), none, some (.inr (.inl x3)), none, some (.inr (.inl 0)), none]) ((hp 83).trans rfl) rfl ?_
            refine am_R.next ((hp 85).trans rfl) rfl ?_
            exact H
          · have H := H.2 (lc_nef c13)
            refine am_R.next ((hp 78).trans rfl) rfl ?_
            refine am_R.next ((hp 79).trans rfl) rfl ?_
            refine am_R.next (lv' := [some (.inl x0), some (.inr (.inl x1)), none, some (.inr (.inl x3)), none, some (.inr (.inl 1)), none]) ((hp 83).trans rfl) rfl ?_
            refine am_R.next ((hp 85).trans rfl) rfl ?_
            exact H
        · have H := H.2
          by_cases c7 : x0 = (-10)
          · have H := H.1 c7
            rw [show am_tsw (-15) (-8) [120, 142, 104, 88, 72, 64, 56, 48] 142 x0 = 64 by rw [c7]; rfl]
            refine am_R.next ((hp 64).trans rfl) rfl ?_
            refine am_R.next ((hp 65).trans rfl) rfl ?_
            refine am_R.next ((hp 66).trans rfl) rfl ?_
            obtain ⟨y12, ey12⟩ : ∃ z : Int, z = am_W (x1 * x3) := ⟨_, rfl⟩
            have H := H y12 ey12
            refine am_R.next (lv' := [some (.inl x0), some (.inr (.inl x1)), none, some (.inr (.inl x3)), none, some (.inr (.inl y12)), none]) (st' := []) (h' := h) (pc' := 69) ((hp 67).trans rfl) (by rw [ey12]; rfl) ?_
            refine am_R.next ((hp 69).trans rfl) rfl ?_
            exact H
          · have H := H.2
            by_cases c8 : x0 = (-9)
            · have H := H.1 c8
              rw [show am_tsw (-15) (-8) [120, 142, 104, 88, 72, 64, 56, 48] 142 x0 = 56 by rw [c8]; rfl]
              refine am_R.next ((hp 56).trans rfl) rfl ?_
              refine am_R.next ((hp 57).trans rfl) rfl ?_
              refine am_R.next ((hp 58).trans rfl) rfl ?_
              obtain ⟨y11, ey11⟩ : ∃ z : Int, z = am_W (x1 - x3) := ⟨_, rfl⟩
              have H := H y11 ey11
              refine am_R.next (lv' := [some (.inl x0), some (.inr (.inl x1)), none, some (.inr (.inl x3)), none, some (.inr (.inl y11)), none]) (st' := []) (h' := h) (pc' := 61) ((hp 59).trans rfl) (by rw [ey11]; rfl) ?_
              refine am_R.next ((hp 61).trans rfl) rfl ?_
              exact H
            · have H := H.2
              by_cases c9 : x0 = (-8)
              · have H := H.1 c9
                rw [show am_tsw (-15) (-8) [120, 142, 104, 88, 72, 64, 56, 48] 142 x0 = 48 by rw [c9]; rfl]
                refine am_R.next ((hp 48).trans rfl) rfl ?_
                refine am_R.next ((hp 49).trans rfl) rfl ?_
                refine am_R.next ((hp 50).trans rfl) rfl ?_
                obtain ⟨y10, ey10⟩ : ∃ z : Int, z = am_W (x1 + x3) := ⟨_, rfl⟩
                have H := H y10 ey10
                refine am_R.next (lv' := [some (.inl x0), some (.inr (.inl x1)), none, some (.inr (.inl x3)), none, some (.inr (.inl y10)), none]) (st' := []) (h' := h) (pc' := 53) ((hp 51).trans rfl) (by rw [ey10]; rfl) ?_
                refine am_R.next ((hp 53).trans rfl) rfl ?_
                exact H
              · have H := H.2
                have H := H ⟨c3, c4, c5, c6, c7, c8, c9⟩
                rw [show am_tsw (-15) (-8) [120, 142, 104, 88, 72, 64, 56, 48] 142 x0 = 142 from tsw_d (by decide) (fun j hj => match j, hj with | 0, _ => Or.inr (fun e => c3 (e.trans (by decide))) | 1, _ => Or.inl rfl | 2, _ => Or.inr (fun e => c4 (e.trans (by decide))) | 3, _ => Or.inr (fun e => c5 (e.trans (by decide))) | 4, _ => Or.inr (fun e => c6 (e.trans (by decide))) | 5, _ => Or.inr (fun e => c7 (e.trans (by decide))) | 6, _ => Or.inr (fun e => c8 (e.trans (by decide))) | 7, _ => Or.inr (fun e => c9 (e.trans (by decide))) | n + 8, hj => absurd hj (Nat.not_lt.mpr (Nat.le_add_left 8 n)))]
                refine am_R.next ((hp 142).trans rfl) rfl ?_
                refine am_R.next ((hp 143).trans rfl) rfl ?_
                refine am_R.next ((hp 144).trans rfl) rfl ?_
                refine r_if ((hp 145).trans rfl) (fun c2 => ?_) (fun c2 => ?_)
                · have H := H.1 (lc_net c2)
                  exact H
                · have H := H.2 (lc_nef c2)
                  refine am_R.next ((hp 148).trans rfl) rfl ?_
                  refine am_R.next ((hp 149).trans rfl) rfl ?_
                  refine am_R.next ((hp 150).trans rfl) rfl ?_
                  refine r_if ((hp 151).trans rfl) (fun c1 => ?_) (fun c1 => ?_)
                  · have H := H.1 (lc_eqt c1)
                    refine am_R.next ((hp 158).trans rfl) rfl ?_
                    refine am_R.next (lv' := [some (.inl x0), some (.inr (.inl x1)), none, some (.inr (.inl x3)), none, some (.inr (.inl 0)), none]) ((hp 159).trans rfl) rfl ?_
                    exact H
                  · have H := H.2 (lc_eqf c1)
                    exact H
theorem w_Stage_combined_136 {scr : Nat × (Nat → Int)} {d : Nat} {h : am_H} {Q : Option am_V → am_H → Prop} {x0 x1 x3 : Int} (hs : am_sc scr) (hw : wf h) (H : am_R (am_prog scr) d f_Stage_combined 161 [some (.inl x0), some (.inr (.inl x1)), none, some (.inr (.inl x3)), none, some (.inr (.inl 0)), none] [] h Q) : am_R (am_prog scr) d f_Stage_combined 136 [some (.inl x0), some (.inr (.inl x1)), none, some (.inr (.inl x3)), none, none, none] [] h Q := by
  have hp : ∀ k, (am_prog scr).1 f_Stage_combined k = c_Stage_combined k := fun _ => rfl
  refine am_R.next ((hp 136).trans rfl) rfl ?_
  refine am_R.next (lv' := [some (.inl x0), some (.inr (.inl x1)), none, some (.inr (.inl x3)), none, some (.inr (.inl 0)), none]) ((hp 137).trans rfl) rfl ?_
  refine am_R.next ((hp 139).trans rfl) rfl ?_
  exact H
theorem w_Stage_combined_154 {scr : Nat × (Nat → Int)} {d : Nat} {h : am_H} {Q : Option am_V → am_H → Prop} {x0 x1 x3 : Int} (hs : am_sc scr) (hw : wf h) (H : am_R (am_prog scr) d f_Stage_combined 161 [some (.inl x0), some (.inr (.inl x1)), none, some (.inr (.inl x3)), none, some (.inr (.inl 1)), none] [] h Q) : am_R (am_prog scr) d f_Stage_combined 154 [some (.inl x0), some (.inr (.inl x1)), none, some (.inr (.inl x3)), none, none, none] [] h Q := by
  have hp : ∀ k, (am_prog scr).1 f_Stage_combined k = c_Stage_combined k := fun _ => rfl
  refine am_R.next ((hp 154).trans rfl) rfl ?_
  refine am_R.next ((hp 155).trans rfl) rfl ?_
  refine am_R.next (lv' := [some (.inl x0), some (.inr (.inl x1)), none, some (.inr (.inl x3)), none, some (.inr (.inl 1)), none]) ((hp 159).trans rfl) rfl ?_
  exact H
theorem w_Stage_combined_161 {scr : Nat × (Nat → Int)} {d : Nat} {h : am_H} {Q : Option am_V → am_H → Prop} {x0 x1 x3 x5 : Int} (hs : am_sc scr) (hw : wf h) (H : (¬ (x5 < (-1000000)) → ((¬ (1000000 < x5) → (Q (some (.inl (am_w x5))) h)) ∧ (1000000 < x5 → (Q (some (.inl 1000000)) h)))) ∧ (x5 < (-1000000) → (Q (some (.inl (-1000000))) h))) : am_R (am_prog scr) d f_Stage_combined 161 [some (.inl x0), some (.inr (.inl x1)), none, some (.inr (.inl x3)), none, some (.inr (.inl x5)), none] [] h Q := by
  have hp : ∀ k, (am_prog scr).1 f_Stage_combined k = c_Stage_combined k := fun _ => rfl
  refine am_R.next ((hp 161).trans rfl) rfl ?_
  refine am_R.next ((hp 163).trans rfl) rfl ?_
  refine am_R.next ((hp 166).trans rfl) rfl ?_
  refine r_if ((hp 167).trans rfl) (fun c2 => ?_) (fun c2 => ?_)
  · have H := H.1 (lc_get c2)
    refine am_R.next ((hp 175).trans rfl) rfl ?_
    refine am_R.next ((hp 177).trans rfl) rfl ?_
    refine am_R.next ((hp 180).trans rfl) rfl ?_
    refine r_if ((hp 181).trans rfl) (fun c1 => ?_) (fun c1 => ?_)
    · have H := H.1 (lc_let c1)
      refine am_R.next ((hp 189).trans rfl) rfl ?_
      refine am_R.next ((hp 191).trans rfl) rfl ?_
      exact am_R.ret ((hp 192).trans rfl) rfl H
    · have H := H.2 (lc_lef c1)
      refine am_R.next ((hp 184).trans rfl) rfl ?_
      refine am_R.next ((hp 186).trans rfl) rfl ?_
      exact am_R.ret ((hp 192).trans rfl) rfl H
  · have H := H.2 (lc_gef c2)
    refine am_R.next ((hp 170).trans rfl) rfl ?_
    refine am_R.next ((hp 172).trans rfl) rfl ?_
    exact am_R.ret ((hp 192).trans rfl) rfl H
