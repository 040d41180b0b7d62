/-! the law: what its stretches ask for (printed by program) -/
theorem w_L_law_18 {scr : Nat × (Nat → Int)} {d : Nat} {h : am_H} {Q : Option am_V → am_H → Prop} {x3 : Int} (hs : am_sc scr) (hw : wf h) (H : ((am_w ((scr.1 : Int) - 6)) < x3 → (Q (some (.inl 1)) h)) ∧ (¬ ((am_w ((scr.1 : Int) - 6)) < x3) → ((0 ≤ x3 ∧ x3 < (scr.1 : Int)) ∧ (((am_and (scr.2 x3.toNat) 63) = 0 → (am_R (am_prog scr) (d + 1) f_L_law 212 [some (.inr (.inr (-1000))), some (.inr (.inr ((0 : Nat) : Int))), some (.inr (.inr ((109 : Nat) : Int))), some (.inl x3)] [] h Q)) ∧ (((am_and (scr.2 x3.toNat) 63) = 1 → (am_R (am_prog scr) (d + 1) f_L_law 275 [some (.inr (.inr (-1000))), some (.inr (.inr ((0 : Nat) : Int))), some (.inr (.inr ((109 : Nat) : Int))), some (.inl x3)] [] h Q)) ∧ (((am_and (scr.2 x3.toNat) 63) = 2 → (am_R (am_prog scr) (d + 1) f_L_law 298 [some (.inr (.inr (-1000))), some (.inr (.inr ((0 : Nat) : Int))), some (.inr (.inr ((109 : Nat) : Int))), some (.inl x3)] [] h Q)) ∧ (((am_and (scr.2 x3.toNat) 63) = 3 → (am_R (am_prog scr) (d + 1) f_L_law 321 [some (.inr (.inr (-1000))), some (.inr (.inr ((0 : Nat) : Int))), some (.inr (.inr ((109 : Nat) : Int))), some (.inl x3)] [] h Q)) ∧ (((am_and (scr.2 x3.toNat) 63) = 4 → (am_R (am_prog scr) (d + 1) f_L_law 354 [some (.inr (.inr (-1000))), some (.inr (.inr ((0 : Nat) : Int))), some (.inr (.inr ((109 : Nat) : Int))), some (.inl x3)] [] h Q)) ∧ (((am_and (scr.2 x3.toNat) 63) = 5 → (am_R (am_prog scr) (d + 1) f_L_law 377 [some (.inr (.inr (-1000))), some (.inr (.inr ((0 : Nat) : Int))), some (.inr (.inr ((109 : Nat) : Int))), some (.inl x3)] [] h Q)) ∧ (((am_and (scr.2 x3.toNat) 63) = 6 → (am_R (am_prog scr) (d + 1) f_L_law 410 [some (.inr (.inr (-1000))), some (.inr (.inr ((0 : Nat) : Int))), some (.inr (.inr ((109 : Nat) : Int))), some (.inl x3)] [] h Q)) ∧ (((am_and (scr.2 x3.toNat) 63) = 7 → (am_R (am_prog scr) (d + 1) f_L_law 433 [some (.inr (.inr (-1000))), some (.inr (.inr ((0 : Nat) : Int))), some (.inr (.inr ((109 : Nat) : Int))), some (.inl x3)] [] h Q)) ∧ (((am_and (scr.2 x3.toNat) 63) = 8 → (am_R (am_prog scr) (d + 1) f_L_law 456 [some (.inr (.inr (-1000))), some (.inr (.inr ((0 : Nat) : Int))), some (.inr (.inr ((109 : Nat) : Int))), some (.inl x3)] [] h Q)) ∧ (((am_and (scr.2 x3.toNat) 63) = 9 → (am_R (am_prog scr) (d + 1) f_L_law 489 [some (.inr (.inr (-1000))), some (.inr (.inr ((0 : Nat) : Int))), some (.inr (.inr ((109 : Nat) : Int))), some (.inl x3)] [] h Q)) ∧ (((am_and (scr.2 x3.toNat) 63) = 10 → (am_R (am_prog scr) (d + 1) f_L_law 522 [some (.inr (.inr (-1000))), some (.inr (.inr ((0 : Nat) : Int))), some (.inr (.inr ((109 : Nat) : Int))), some (.inl x3)] [] h Q)) ∧ (((am_and (scr.2 x3.toNat) 63) = 11 → (am_R (am_prog scr) (d + 1) f_L_law 545 [some (.inr (.inr (-1000))), some (.inr (.inr ((0 : Nat) : Int))), some (.inr (.inr ((109 : Nat) : Int))), some (.inl x3)] [] h Q)) ∧ (((am_and (scr.2 x3.toNat) 63) = 12 → (am_R (am_prog scr) (d + 1) f_L_law 568 [some (.inr (.inr (-1000))), some (.inr (.inr ((0 : Nat) : Int))), some (.inr (.inr ((109 : Nat) : Int))), some (.inl x3)] [] h Q)) ∧ (((am_and (scr.2 x3.toNat) 63) = 13 → (am_R (am_prog scr) (d + 1) f_L_law 601 [some (.inr (.inr (-1000))), some (.inr (.inr ((0 : Nat) : Int))), some (.inr (.inr ((109 : Nat) : Int))), some (.inl x3)] [] h Q)) ∧ (((am_and (scr.2 x3.toNat) 63) = 14 → (am_R (am_prog scr) (d + 1) f_L_law 624 [some (.inr (.inr (-1000))), some (.inr (.inr ((0 : Nat) : Int))), some (.inr (.inr ((109 : Nat) : Int))), some (.inl x3)] [] h Q)) ∧ (((am_and (scr.2 x3.toNat) 63) = 15 → (am_R (am_prog scr) (d + 1) f_L_law 657 [some (.inr (.inr (-1000))), some (.inr (.inr ((0 : Nat) : Int))), some (.inr (.inr ((109 : Nat) : Int))), some (.inl x3)] [] h Q)) ∧ (((am_and (scr.2 x3.toNat) 63) = 16 → (am_R (am_prog scr) (d + 1) f_L_law 680 [some (.inr (.inr (-1000))), some (.inr (.inr ((0 : Nat) : Int))), some (.inr (.inr ((109 : Nat) : Int))), some (.inl x3)] [] h Q)) ∧ (((am_and (scr.2 x3.toNat) 63) = 17 → (am_R (am_prog scr) (d + 1) f_L_law 703 [some (.inr (.inr (-1000))), some (.inr (.inr ((0 : Nat) : Int))), some (.inr (.inr ((109 : Nat) : Int))), some (.inl x3)] [] h Q)) ∧ (((am_and (scr.2 x3.toNat) 63) = 18 → (am_R (am_prog scr) (d + 1) f_L_law 726 [some (.inr (.inr (-1000))), some (.inr (.inr ((0 : Nat) : Int))), some (.inr (.inr ((109 : Nat) : Int))), some (.inl x3)] [] h Q)) ∧ (((am_and (scr.2 x3.toNat) 63) = 19 → (am_R (am_prog scr) (d + 1) f_L_law 749 [some (.inr (.inr (-1000))), some (.inr (.inr ((0 : Nat) : Int))), some (.inr (.inr ((109 : Nat) : Int))), some (.inl x3)] [] h Q)) ∧ (((am_and (scr.2 x3.toNat) 63) = 20 → (am_R (am_prog scr) (d + 1) f_L_law 782 [some (.inr (.inr (-1000))), some (.inr (.inr ((0 : Nat) : Int))), some (.inr (.inr ((109 : Nat) : Int))), some (.inl x3)] [] h Q)) ∧ (((am_and (scr.2 x3.toNat) 63) = 21 → (am_R (am_prog scr) (d + 1) f_L_law 816 [some (.inr (.inr (-1000))), some (.inr (.inr ((0 : Nat) : Int))), some (.inr (.inr ((109 : Nat) : Int))), some (.inl x3)] [] h Q)) ∧ (((am_and (scr.2 x3.toNat) 63) = 22 → (am_R (am_prog scr) (d + 1) f_L_law 829 [some (.inr (.inr (-1000))), some (.inr (.inr ((0 : Nat) : Int))), some (.inr (.inr ((109 : Nat) : Int))), some (.inl x3)] [] h Q)) ∧ (((am_and (scr.2 x3.toNat) 63) = 23 → (am_R (am_prog scr) (d + 1) f_L_law 852 [some (.inr (.inr (-1000))), some (.inr (.inr ((0 : Nat) : Int))), some (.inr (.inr ((109 : Nat) : Int))), some (.inl x3)] [] h Q)) ∧ (((am_and (scr.2 x3.toNat) 63) = 24 → (am_R (am_prog scr) (d + 1) f_L_law 865 [some (.inr (.inr (-1000))), some (.inr (.inr ((0 : Nat) : Int))), some (.inr (.inr ((109 : Nat) : Int))), some (.inl x3)] [] h Q)) ∧ (((am_and (scr.2 x3.toNat) 63) = 25 → (am_R (am_prog scr) (d + 1) f_L_law 888 [some (.inr (.inr (-1000))), some (.inr (.inr ((0 : Nat) : Int))), some (.inr (.inr ((109 : Nat) : Int))), some (.inl x3)] [] h Q)) ∧ (((am_and (scr.2 x3.toNat) 63) = 26 → (am_R (am_prog scr) (d + 1) f_L_law 911 [some (.inr (.inr (-1000))), some (.inr (.inr ((0 : Nat) : Int))), some (.inr (.inr ((109 : Nat) : Int))), some (.inl x3)] [] h Q)) ∧ (((am_and (scr.2 x3.toNat) 63) = 27 → (am_R (am_prog scr) (d + 1) f_L_law 935 [some (.inr (.inr (-1000))), some (.inr (.inr ((0 : Nat) : Int))), some (.inr (.inr ((109 : Nat) : Int))), some (.inl x3)] [] h Q)) ∧ (((am_and (scr.2 x3.toNat) 63) = 28 → (am_R (am_prog scr) (d + 1) f_L_law 968 [some (.inr (.inr (-1000))), some (.inr (.inr ((0 : Nat) : Int))), some (.inr (.inr ((109 : Nat) : Int))), some (.inl x3)] [] h Q)) ∧ (((am_and (scr.2 x3.toNat) 63) = 29 → (am_R (am_prog scr) (d + 1) f_L_law 1001 [some (.inr (.inr (-1000))), some (.inr (.inr ((0 : Nat) : Int))), some (.inr (.inr ((109 : Nat) : Int))), some (.inl x3)] [] h Q)) ∧ (((am_and (scr.2 x3.toNat) 63) = 30 → (am_R (am_prog scr) (d + 1) f_L_law 1024 [some (.inr (.inr (-1000))), some (.inr (.inr ((0 : Nat) : Int))), some (.inr (.inr ((109 : Nat) : Int))), some (.inl x3)] [] h Q)) ∧ (((am_and (scr.2 x3.toNat) 63) = 31 → (am_R (am_prog scr) (d + 1) f_L_law 1047 [some (.inr (.inr (-1000))), some (.inr (.inr ((0 : Nat) : Int))), some (.inr (.inr ((109 : Nat) : Int))), some (.inl x3)] [] h Q)) ∧ (((am_and (scr.2 x3.toNat) 63) = 32 → (am_R (am_prog scr) (d + 1) f_L_law 1060 [some (.inr (.inr (-1000))), some (.inr (.inr ((0 : Nat) : Int))), some (.inr (.inr ((109 : Nat) : Int))), some (.inl x3)] [] h Q)) ∧ (((am_and (scr.2 x3.toNat) 63) = 33 → (am_R (am_prog scr) (d + 1) f_L_law 1073 [some (.inr (.inr (-1000))), some (.inr (.inr ((0 : Nat) : Int))), some (.inr (.inr ((109 : Nat) : Int))), some (.inl x3)] [] h Q)) ∧ (((am_and (scr.2 x3.toNat) 63) = 34 → (am_R (am_prog scr) (d + 1) f_L_law 1106 [some (.inr (.inr (-1000))), some (.inr (.inr ((0 : Nat) : Int))), some (.inr (.inr ((109 : Nat) : Int))), some (.inl x3)] [] h Q)) ∧ (((am_and (scr.2 x3.toNat) 63) = 35 → (am_R (am_prog scr) (d + 1) f_L_law 1139 [some (.inr (.inr (-1000))), some (.inr (.inr ((0 : Nat) : Int))), some (.inr (.inr ((109 : Nat) : Int))), some (.inl x3)] [] h Q)) ∧ (((am_and (scr.2 x3.toNat) 63) = 36 → (am_R (am_prog scr) (d + 1) f_L_law 1182 [some (.inr (.inr (-1000))), some (.inr (.inr ((0 : Nat) : Int))), some (.inr (.inr ((109 : Nat) : Int))), some (.inl x3)] [] h Q)) ∧ (((am_and (scr.2 x3.toNat) 63) = 37 → (am_R (am_prog scr) (d + 1) f_L_law 1256 [some (.inr (.inr (-1000))), some (.inr (.inr ((0 : Nat) : Int))), some (.inr (.inr ((109 : Nat) : Int))), some (.inl x3)] [] h Q)) ∧ (((am_and (scr.2 x3.toNat) 63) = 38 → (am_R (am_prog scr) (d + 1) f_L_law 1289 [some (.inr (.inr (-1000))), some (.inr (.inr ((0 : Nat) : Int))), some (.inr (.inr ((109 : Nat) : Int))), some (.inl x3)] [] h Q)) ∧ (((am_and (scr.2 x3.toNat) 63) = 39 → (am_R (am_prog scr) (d + 1) f_L_law 1312 [some (.inr (.inr (-1000))), some (.inr (.inr ((0 : Nat) : Int))), some (.inr (.inr ((109 : Nat) : Int))), some (.inl x3)] [] h Q)) ∧ (((am_and (scr.2 x3.toNat) 63) = 40 → (am_R (am_prog scr) (d + 1) f_L_law 1335 [some (.inr (.inr (-1000))), some (.inr (.inr ((0 : Nat) : Int))), some (.inr (.inr ((109 : Nat) : Int))), some (.inl x3)] [] h Q)) ∧ ((¬ (am_and (scr.2 x3.toNat) 63) = 0 ∧ ¬ (am_and (scr.2 x3.toNat) 63) = 1 ∧ ¬ (am_and (scr.2 x3.toNat) 63) = 2 ∧ ¬ (am_and (scr.2 x3.toNat) 63) = 3 ∧ ¬ (am_and (scr.2 x3.toNat) 63) = 4 ∧ ¬ (am_and (scr.2 x3.toNat) 63) = 5 ∧ ¬ (am_and (scr.2 x3.toNat) 63) = 6 ∧ ¬ (am_and (scr.2 x3.toNat) 63) = 7 ∧ ¬ (am_and (scr.2 x3.toNat) 63) = 8 ∧ ¬ (am_and (scr.2 x3.toNat) 63) = 9 ∧ ¬ (am_and (scr.2 x3.toNat) 63) = 10 ∧ ¬ (am_and (scr.2 x3.toNat) 63) = 11 ∧ ¬ (am_and (scr.2 x3.toNat) 63) = 12 ∧ ¬ (am_and (scr.2 x3.toNat) 63) = 13 ∧ ¬ (am_and (scr.2 x3.toNat) 63) = 14 ∧ ¬ (am_and (scr.2 x3.toNat) 63) = 15 ∧ ¬ (am_and (scr.2 x3.toNat) 63) = 16 ∧ ¬ (am_and (scr.2 x3.toNat) 63) = 17 ∧ ¬ (am_and (scr.2 x3.toNat) 63) = 18 ∧ ¬ (am_and (scr.2 x3.toNat) 63) = 19 ∧ ¬ (am_and (scr.2 x3.toNat) 63) = 20 ∧ ¬ (am_and (scr.2 x3.toNat) 63) = 21 ∧ ¬ (am_and (scr.2 x3.toNat) 63) = 22 ∧ ¬ (am_and (scr.2 x3.toNat) 63) = 23 ∧ ¬ (am_and (scr.2 x3.toNat) 63) = 24 ∧ ¬ (am_and (scr.2 x3.toNat) 63) = 25 ∧ ¬ (am_and (scr.2 x3.toNat) 63) = 26 ∧ ¬ (am_and (scr.2 x3.toNat) 63) = 27 ∧ ¬ (am_and (scr.2 x3.toNat) 63) = 28 ∧ ¬ (am_and (scr.2 x3.toNat) 63) = 29 ∧ ¬ (am_and (scr.2 x3.toNat) 63) = 30 ∧ ¬ (am_and (scr.2 x3.toNat) 63) = 31 ∧ ¬ (am_and (scr.2 x3.toNat) 63) = 32 ∧ ¬ (am_and (scr.2 x3.toNat) 63) = 33 ∧ ¬ (am_and (scr.2 x3.toNat) 63) = 34 ∧ ¬ (am_and (scr.2 x3.toNat) 63) = 35 ∧ ¬ (am_and (scr.2 x3.toNat) 63) = 36 ∧ ¬ (am_and (scr.2 x3.toNat) 63) = 37 ∧ ¬ (am_and (scr.2 x3.toNat) 63) = 38 ∧ ¬ (am_and (scr.2 x3.toNat) 63) = 39 ∧ ¬ (am_and (scr.2 x3.toNat) 63) = 40) → (∀ y2 : Int, y2 = am_w (x3 + 6) → (am_R (am_prog scr) (d + 1) f_L_law 18 [some (.inr (.inr (-1000))), some (.inr (.inr ((0 : Nat) : Int))), some (.inr (.inr ((109 : Nat) : Int))), some (.inl y2)] [] h Q))))))))))))))))))))))))))))))))))))))))))))))) : am_R (am_prog scr) (d + 1) f_L_law 18 [some (.inr (.inr (-1000))), some (.inr (.inr ((0 : Nat) : Int))), some (.inr (.inr ((109 : Nat) : Int))), some (.inl x3)] [] h Q := by
  have hp : ∀ k, (am_prog scr).1 f_L_law k = c_L_law scr k := fun _ => rfl
  refine am_R.next ((hp 18).trans rfl) rfl ?_
  refine am_R.next ((hp 19).trans rfl) rfl ?_
  refine r_slen ((hp 20).trans rfl) ?_
  refine am_R.next ((hp 21).trans rfl) rfl ?_
  refine am_R.next ((hp 23).trans rfl) rfl ?_
  refine r_ic ((hp 24).trans rfl) (fun c44 => ?_) (fun c44 => ?_)
  · have H := H.1 c44
    refine am_R.next ((hp 1364).trans rfl) rfl ?_
    exact r_zret ((hp 1365).trans rfl) (Or.inr rfl) H
  · have H := H.2 c44
    refine am_R.next ((hp 27).trans rfl) rfl ?_
    refine am_R.next ((hp 28).trans rfl) rfl ?_
    obtain ⟨c1, H⟩ := H
    refine r_sld ((hp 29).trans rfl) c1 ?_
    refine am_R.next ((hp 30).trans rfl) rfl ?_
    refine am_R.next ((hp 32).trans rfl) rfl ?_
    refine am_R.next ((hp 33).trans rfl) rfl ?_
    change am_R _ _ _ (am_tsw 0 40 [212, 275, 298, 321, 354, 377, 410, 433, 456, 489, 522, 545, 568, 601, 624, 657, 680, 703, 726, 749, 782, 816, 829, 852, 865, 888, 911, 935, 968, 1001, 1024, 1047, 1060, 1073, 1106, 1139, 1182, 1256, 1289, 1312, 1335] 1358 (am_and (scr.2 x3.toNat) 63)) _ _ _ _
    by_cases c3 : (am_and (scr.2 x3.toNat) 63) = 0
    · have H := H.1 c3
      rw [show am_tsw 0 40 [212, 275, 298, 321, 354, 377, 410, 433, 456, 489, 522, 545, 568, 601, 624, 657, 680, 703, 726, 749, 782, 816, 829, 852, 865, 888, 911, 935, 968, 1001, 1024, 1047, 1060, 1073, 1106, 1139, 1182, 1256, 1289, 1312, 1335] 1358 (am_and (scr.2 x3.toNat) 63) = 212 by rw [c3]; rfl]
      exact H
    · have H := H.2
      by_cases c4 : (am_and (scr.2 x3.toNat) 63) = 1
      · have H := H.1 c4
        rw [show am_tsw 0 40 [212, 275, 298, 321, 354, 377, 410, 433, 456, 489, 522, 545, 568, 601, 624, 657, 680, 703, 726, 749, 782, 816, 829, 852, 865, 888, 911, 935, 968, 1001, 1024, 1047, 1060, 1073, 1106, 1139, 1182, 1256, 1289, 1312, 1335] 1358 (am_and (scr.2 x3.toNat) 63) = 275 by rw [c4]; rfl]
        exact H
      · have H := H.2
        by_cases c5 : (am_and (scr.2 x3.toNat) 63) = 2
        · have H := H.1 c5
          rw [show am_tsw 0 40 [212, 275, 298, 321, 354, 377, 410, 433, 456, 489, 522, 545, 568, 601, 624, 657, 680, 703, 726, 749, 782, 816, 829, 852, 865, 888, 911, 935, 968, 1001, 1024, 1047, 1060, 1073, 1106, 1139, 1182, 1256, 1289, 1312, 1335] 1358 (am_and (scr.2 x3.toNat) 63) = 298 by rw [c5]; rfl]
          exact H
        · have H := H.2
          by_cases c6 : (am_and (scr.2 x3.toNat) 63) = 3
          · have H := H.1 c6
            rw [show am_tsw 0 40 [212, 275, 298, 321, 354, 377, 410, 433, 456, 489, 522, 545, 568, 601, 624, 657, 680, 703, 726, 749, 782, 816, 829, 852, 865, 888, 911, 935, 968, 1001, 1024, 1047, 1060, 1073, 1106, 1139, 1182, 1256, 1289, 1312, 1335] 1358 (am_and (scr.2 x3.toNat) 63) = 321 by rw [c6]; rfl]
            exact H
          · have H := H.2
            by_cases c7 : (am_and (scr.2 x3.toNat) 63) = 4
            · have H := H.1 c7
              rw [show am_tsw 0 40 [212, 275, 298, 321, 354, 377, 410, 433, 456, 489, 522, 545, 568, 601, 624, 657, 680, 703, 726, 749, 782, 816, 829, 852, 865, 888, 911, 935, 968, 1001, 1024, 1047, 1060, 1073, 1106, 1139, 1182, 1256, 1289, 1312, 1335] 1358 (am_and (scr.2 x3.toNat) 63) = 354 by rw [c7]; rfl]
              exact H
            · have H := H.2
              by_cases c8 : (am_and (scr.2 x3.toNat) 63) = 5
              · have H := H.1 c8
                rw [show am_tsw 0 40 [212, 275, 298, 321, 354, 377, 410, 433, 456, 489, 522, 545, 568, 601, 624, 657, 680, 703, 726, 749, 782, 816, 829, 852, 865, 888, 911, 935, 968, 1001, 1024, 1047, 1060, 1073, 1106, 1139, 1182, 1256, 1289, 1312, 1335] 1358 (am_and (scr.2 x3.toNat) 63) = 377 by rw [c8]; rfl]
                exact H
              · have H := H.2
                by_cases c9 : (am_and (scr.2 x3.toNat) 63) = 6
                · have H := H.1 c9
                  rw [show am_tsw 0 40 [212, 275, 298, 321, 354, 377, 410, 433, 456, 489, 522, 545, 568, 601, 624, 657, 680, 703, 726, 749, 782, 816, 829, 852, 865, 888, 911, 935, 968, 1001, 1024, 1047, 1060, 1073, 1106, 1139, 1182, 1256, 1289, 1312, 1335] 1358 (am_and (scr.2 x3.toNat) 63) = 410 by rw [c9]; rfl]
                  exact H
                · have H := H.2
                  by_cases c10 : (am_and (scr.2 x3.toNat) 63) = 7
                  · have H := H.1 c10
                    rw [show am_tsw 0 40 [212, 275, 298, 321, 354, 377, 410, 433, 456, 489, 522, 545, 568, 601, 624, 657, 680, 703, 726, 749, 782, 816, 829, 852, 865, 888, 911, 935, 968, 1001, 1024, 1047, 1060, 1073, 1106, 1139, 1182, 1256, 1289, 1312, 1335] 1358 (am_and (scr.2 x3.toNat) 63) = 433 by rw [c10]; rfl]
                    exact H
                  · have H := H.2
                    by_cases c11 : (am_and (scr.2 x3.toNat) 63) = 8
                    · have H := H.1 c11
                      rw [show am_tsw 0 40 [212, 275, 298, 321, 354, 377, 410, 433, 456, 489, 522, 545, 568, 601, 624, 657, 680, 703, 726, 749, 782, 816, 829, 852, 865, 888, 911, 935, 968, 1001, 1024, 1047, 1060, 1073, 1106, 1139, 1182, 1256, 1289, 1312, 1335] 1358 (am_and (scr.2 x3.toNat) 63) = 456 by rw [c11]; rfl]
                      exact H
                    · have H := H.2
                      by_cases c12 : (am_and (scr.2 x3.toNat) 63) = 9
                      · have H := H.1 c12
                        rw [show am_tsw 0 40 [212, 275, 298, 321, 354, 377, 410, 433, 456, 489, 522, 545, 568, 601, 624, 657, 680, 703, 726, 749, 782, 816, 829, 852, 865, 888, 911, 935, 968, 1001, 1024, 1047, 1060, 1073, 1106, 1139, 1182, 1256, 1289, 1312, 1335] 1358 (am_and (scr.2 x3.toNat) 63) = 489 by rw [c12]; rfl]
                        exact H
                      · have H := H.2
                        by_cases c13 : (am_and (scr.2 x3.toNat) 63) = 10
                        · have H := H.1 c13
                          rw [show am_tsw 0 40 [212, 275, 298, 321, 354, 377, 410, 433, 456, 489, 522, 545, 568, 601, 624, 657, 680, 703, 726, 749, 782, 816, 829, 852, 865, 888, 911, 935, 968, 1001, 1024, 1047, 1060, 1073, 1106, 1139, 1182, 1256, 1289, 1312, 1335] 1358 (am_and (scr.2 x3.toNat) 63) = 522 by rw [c13]; rfl]
                          exact H
                        · have H := H.2
                          by_cases c14 : (am_and (scr.2 x3.toNat) 63) = 11
                          · have H := H.1 c14
                            rw [show am_tsw 0 40 [212, 275, 298, 321, 354, 377, 410, 433, 456, 489, 522, 545, 568, 601, 624, 657, 680, 703, 726, 749, 782, 816, 829, 852, 865, 888, 911, 935, 968, 1001, 1024, 1047, 1060, 1073, 1106, 1139, 1182, 1256, 1289, 1312, 1335] 1358 (am_and (scr.2 x3.toNat) 63) = 545 by rw [c14]; rfl]
                            exact H
                          · have H := H.2
                            by_cases c15 : (am_and (scr.2 x3.toNat) 63) = 12
                            · have H := H.1 c15
                              rw [show am_tsw 0 40 [212, 275, 298, 321, 354, 377, 410, 433, 456, 489, 522, 545, 568, 601, 624, 657, 680, 703, 726, 749, 782, 816, 829, 852, 865, 888, 911, 935, 968, 1001, 1024, 1047, 1060, 1073, 1106, 1139, 1182, 1256, 1289, 1312, 1335] 1358 (am_and (scr.2 x3.toNat) 63) = 568 by rw [c15]; rfl]
                              exact H
                            · have H := H.2
                              by_cases c16 : (am_and (scr.2 x3.toNat) 63) = 13
                              · have H := H.1 c16
                                rw [show am_tsw 0 40 [212, 275, 298, 321, 354, 377, 410, 433, 456, 489, 522, 545, 568, 601, 624, 657, 680, 703, 726, 749, 782, 816, 829, 852, 865, 888, 911, 935, 968, 1001, 1024, 1047, 1060, 1073, 1106, 1139, 1182, 1256, 1289, 1312, 1335] 1358 (am_and (scr.2 x3.toNat) 63) = 601 by rw [c16]; rfl]
                                exact H
                              · have H := H.2
                                by_cases c17 : (am_and (scr.2 x3.toNat) 63) = 14
                                · have H := H.1 c17
                                  rw [show am_tsw 0 40 [212, 275, 298, 321, 354, 377, 410, 433, 456, 489, 522, 545, 568, 601, 624, 657, 680, 703, 726, 749, 782, 816, 829, 852, 865, 888, 911, 935, 968, 1001, 1024, 1047, 1060, 1073, 1106, 1139, 1182, 1256, 1289, 1312, 1335] 1358 (am_and (scr.2 x3.toNat) 63) = 624 by rw [c17]; rfl]
                                  exact H
                                · have H := H.2
                                  by_cases c18 : (am_and (scr.2 x3.toNat) 63) = 15
                                  · have H := H.1 c18
                                    rw [show am_tsw 0 40 [212, 275, 298, 321, 354, 377, 410, 433, 456, 489, 522, 545, 568, 601, 624, 657, 680, 703, 726, 749, 782, 816, 829, 852, 865, 888, 911, 935, 968, 1001, 1024, 1047, 1060, 1073, 1106, 1139, 1182, 1256, 1289, 1312, 1335] 1358 (am_and (scr.2 x3.toNat) 63) = 657 by rw [c18]; rfl]
                                    exact H
                                  · have H := H.2
                                    by_cases c19 : (am_and (scr.2 x3.toNat) 63) = 16
                                    · have H := H.1 c19
                                      rw [show am_tsw 0 40 [212, 275, 298, 321, 354, 377, 410, 433, 456, 489, 522, 545, 568, 601, 624, 657, 680, 703, 726, 749, 782, 816, 829, 852, 865, 888, 911, 935, 968, 1001, 1024, 1047, 1060, 1073, 1106, 1139, 1182, 1256, 1289, 1312, 1335] 1358 (am_and (scr.2 x3.toNat) 63) = 680 by rw [c19]; rfl]
                                      exact H
                                    · have H := H.2
                                      by_cases c20 : (am_and (scr.2 x3.toNat) 63) = 17
                                      · have H := H.1 c20
                                        rw [show am_tsw 0 40 [212, 275, 298, 321, 354, 377, 410, 433, 456, 489, 522, 545, 568, 601, 624, 657, 680, 703, 726, 749, 782, 816, 829, 852, 865, 888, 911, 935, 968, 1001, 1024, 1047, 1060, 1073, 1106, 1139, 1182, 1256, 1289, 1312, 1335] 1358 (am_and (scr.2 x3.toNat) 63) = 703 by rw [c20]; rfl]
                                        exact H
                                      · have H := H.2
                                        by_cases c21 : (am_and (scr.2 x3.toNat) 63) = 18
                                        · have H := H.1 c21
                                          rw [show am_tsw 0 40 [212, 275, 298, 321, 354, 377, 410, 433, 456, 489, 522, 545, 568, 601, 624, 657, 680, 703, 726, 749, 782, 816, 829, 852, 865, 888, 911, 935, 968, 1001, 1024, 1047, 1060, 1073, 1106, 1139, 1182, 1256, 1289, 1312, 1335] 1358 (am_and (scr.2 x3.toNat) 63) = 726 by rw [c21]; rfl]
                                          exact H
                                        · have H := H.2
                                          by_cases c22 : (am_and (scr.2 x3.toNat) 63) = 19
                                          · have H := H.1 c22
                                            rw [show am_tsw 0 40 [212, 275, 298, 321, 354, 377, 410, 433, 456, 489, 522, 545, 568, 601, 624, 657, 680, 703, 726, 749, 782, 816, 829, 852, 865, 888, 911, 935, 968, 1001, 1024, 1047, 1060, 1073, 1106, 1139, 1182, 1256, 1289, 1312, 1335] 1358 (am_and (scr.2 x3.toNat) 63) = 749 by rw [c22]; rfl]
                                            exact H
                                          · have H := H.2
                                            by_cases c23 : (am_and (scr.2 x3.toNat) 63) = 20
                                            · have H := H.1 c23
                                              rw [show am_tsw 0 40 [212, 275, 298, 321, 354, 377, 410, 433, 456, 489, 522, 545, 568, 601, 624, 657, 680, 703, 726, 749, 782, 816, 829, 852, 865, 888, 911, 935, 968, 1001, 1024, 1047, 1060, 1073, 1106, 1139, 1182, 1256, 1289, 1312, 1335] 1358 (am_and (scr.2 x3.toNat) 63) = 782 by rw [c23]; rfl]
                                              exact H
                                            · have H := H.2
                                              by_cases c24 : (am_and (scr.2 x3.toNat) 63) = 21
                                              · have H := H.1 c24
                                                rw [show am_tsw 0 40 [212, 275, 298, 321, 354, 377, 410, 433, 456, 489, 522, 545, 568, 601, 624, 657, 680, 703, 726, 749, 782, 816, 829, 852, 865, 888, 911, 935, 968, 1001, 1024, 1047, 1060, 1073, 1106, 1139, 1182, 1256, 1289, 1312, 1335] 1358 (am_and (scr.2 x3.toNat) 63) = 816 by rw [c24]; rfl]
                                                exact H
                                              · have H := H.2
                                                by_cases c25 : (am_and (scr.2 x3.toNat) 63) = 22
                                                · have H := H.1 c25
                                                  rw [show am_tsw 0 40 [212, 275, 298, 321, 354, 377, 410, 433, 456, 489, 522, 545, 568, 601, 624, 657, 680, 703, 726, 749, 782, 816, 829, 852, 865, 888, 911, 935, 968, 1001, 1024, 1047, 1060, 1073, 1106, 1139, 1182, 1256, 1289, 1312, 1335] 1358 (am_and (scr.2 x3.toNat) 63) = 829 by rw [c25]; rfl]
                                                  exact H
                                                · have H := H.2
                                                  by_cases c26 : (am_and (scr.2 x3.toNat) 63) = 23
                                                  · have H := H.1 c26
                                                    rw [show am_tsw 0 40 [212, 275, 298, 321, 354, 377, 410, 433, 456, 489, 522, 545, 568, 601, 624, 657, 680, 703, 726, 749, 782, 816, 829, 852, 865, 888, 911, 935, 968, 1001, 1024, 1047, 1060, 1073, 1106, 1139, 1182, 1256, 1289, 1312, 1335] 1358 (am_and (scr.2 x3.toNat) 63) = 852 by rw [c26]; rfl]
                                                    exact H
                                                  · have H := H.2
                                                    by_cases c27 : (am_and (scr.2 x3.toNat) 63) = 24
                                                    · have H := H.1 c27
                                                      rw [show am_tsw 0 40 [212, 275, 298, 321, 354, 377, 410, 433, 456, 489, 522, 545, 568, 601, 624, 657, 680, 703, 726, 749, 782, 816, 829, 852, 865, 888, 911, 935, 968, 1001, 1024, 1047, 1060, 1073, 1106, 1139, 1182, 1256, 1289, 1312, 1335] 1358 (am_and (scr.2 x3.toNat) 63) = 865 by rw [c27]; rfl]
                                                      exact H
                                                    · have H := H.2
                                                      by_cases c28 : (am_and (scr.2 x3.toNat) 63) = 25
                                                      · have H := H.1 c28
                                                        rw [show am_tsw 0 40 [212, 275, 298, 321, 354, 377, 410, 433, 456, 489, 522, 545, 568, 601, 624, 657, 680, 703, 726, 749, 782, 816, 829, 852, 865, 888, 911, 935, 968, 1001, 1024, 1047, 1060, 1073, 1106, 1139, 1182, 1256, 1289, 1312, 1335] 1358 (am_and (scr.2 x3.toNat) 63) = 888 by rw [c28]; rfl]
                                                        exact H
                                                      · have H := H.2
                                                        by_cases c29 : (am_and (scr.2 x3.toNat) 63) = 26
                                                        · have H := H.1 c29
                                                          rw [show am_tsw 0 40 [212, 275, 298, 321, 354, 377, 410, 433, 456, 489, 522, 545, 568, 601, 624, 657, 680, 703, 726, 749, 782, 816, 829, 852, 865, 888, 911, 935, 968, 1001, 1024, 1047, 1060, 1073, 1106, 1139, 1182, 1256, 1289, 1312, 1335] 1358 (am_and (scr.2 x3.toNat) 63) = 911 by rw [c29]; rfl]
                                                          exact H
                                                        · have H := H.2
                                                          by_cases c30 : (am_and (scr.2 x3.toNat) 63) = 27
                                                          · have H := H.1 c30
                                                            rw [show am_tsw 0 40 [212, 275, 298, 321, 354, 377, 410, 433, 456, 489, 522, 545, 568, 601, 624, 657, 680, 703, 726, 749, 782, 816, 829, 852, 865, 888, 911, 935, 968, 1001, 1024, 1047, 1060, 1073, 1106, 1139, 1182, 1256, 1289, 1312, 1335] 1358 (am_and (scr.2 x3.toNat) 63) = 935 by rw [c30]; rfl]
                                                            exact H
                                                          · have H := H.2
                                                            by_cases c31 : (am_and (scr.2 x3.toNat) 63) = 28
                                                            · have H := H.1 c31
                                                              rw [show am_tsw 0 40 [212, 275, 298, 321, 354, 377, 410, 433, 456, 489, 522, 545, 568, 601, 624, 657, 680, 703, 726, 749, 782, 816, 829, 852, 865, 888, 911, 935, 968, 1001, 1024, 1047, 1060, 1073, 1106, 1139, 1182, 1256, 1289, 1312, 1335] 1358 (am_and (scr.2 x3.toNat) 63) = 968 by rw [c31]; rfl]
                                                              exact H
                                                            · have H := H.2
                                                              by_cases c32 : (am_and (scr.2 x3.toNat) 63) = 29
                                                              · have H := H.1 c32
                                                                rw [show am_tsw 0 40 [212, 275, 298, 321, 354, 377, 410, 433, 456, 489, 522, 545, 568, 601, 624, 657, 680, 703, 726, 749, 782, 816, 829, 852, 865, 888, 911, 935, 968, 1001, 1024, 1047, 1060, 1073, 1106, 1139, 1182, 1256, 1289, 1312, 1335] 1358 (am_and (scr.2 x3.toNat) 63) = 1001 by rw [c32]; rfl]
                                                                exact H
                                                              · have H := H.2
                                                                by_cases c33 : (am_and (scr.2 x3.toNat) 63) = 30
                                                                · have H := H.1 c33
                                                                  rw [show am_tsw 0 40 [212, 275, 298, 321, 354, 377, 410, 433, 456, 489, 522, 545, 568, 601, 624, 657, 680, 703, 726, 749, 782, 816, 829, 852, 865, 888, 911, 935, 968, 1001, 1024, 1047, 1060, 1073, 1106, 1139, 1182, 1256, 1289, 1312, 1335] 1358 (am_and (scr.2 x3.toNat) 63) = 1024 by rw [c33]; rfl]
                                                                  exact H
                                                                · have H := H.2
                                                                  by_cases c34 : (am_and (scr.2 x3.toNat) 63) = 31
                                                                  · have H := H.1 c34
                                                                    rw [show am_tsw 0 40 [212, 275, 298, 321, 354, 377, 410, 433, 456, 489, 522, 545, 568, 601, 624, 657, 680, 703, 726, 749, 782, 816, 829, 852, 865, 888, 911, 935, 968, 1001, 1024, 1047, 1060, 1073, 1106, 1139, 1182, 1256, 1289, 1312, 1335] 1358 (am_and (scr.2 x3.toNat) 63) = 1047 by rw [c34]; rfl]
                                                                    exact H
                                                                  · have H := H.2
                                                                    by_cases c35 : (am_and (scr.2 x3.toNat) 63) = 32
                                                                    · have H := H.1 c35
                                                                      rw [show am_tsw 0 40 [212, 275, 298, 321, 354, 377, 410, 433, 456, 489, 522, 545, 568, 601, 624, 657, 680, 703, 726, 749, 782, 816, 829, 852, 865, 888, 911, 935, 968, 1001, 1024, 1047, 1060, 1073, 1106, 1139, 1182, 1256, 1289, 1312, 1335] 1358 (am_and (scr.2 x3.toNat) 63) = 1060 by rw [c35]; rfl]
                                                                      exact H
                                                                    · have H := H.2
                                                                      by_cases c36 : (am_and (scr.2 x3.toNat) 63) = 33
                                                                      · have H := H.1 c36
                                                                        rw [show am_tsw 0 40 [212, 275, 298, 321, 354, 377, 410, 433, 456, 489, 522, 545, 568, 601, 624, 657, 680, 703, 726, 749, 782, 816, 829, 852, 865, 888, 911, 935, 968, 1001, 1024, 1047, 1060, 1073, 1106, 1139, 1182, 1256, 1289, 1312, 1335] 1358 (am_and (scr.2 x3.toNat) 63) = 1073 by rw [c36]; rfl]
                                                                        exact H
                                                                      · have H := H.2
                                                                        by_cases c37 : (am_and (scr.2 x3.toNat) 63) = 34
                                                                        · have H := H.1 c37
                                                                          rw [show am_tsw 0 40 [212, 275, 298, 321, 354, 377, 410, 433, 456, 489, 522, 545, 568, 601, 624, 657, 680, 703, 726, 749, 782, 816, 829, 852, 865, 888, 911, 935, 968, 1001, 1024, 1047, 1060, 1073, 1106, 1139, 1182, 1256, 1289, 1312, 1335] 1358 (am_and (scr.2 x3.toNat) 63) = 1106 by rw [c37]; rfl]
                                                                          exact H
                                                                        · have H := H.2
                                                                          by_cases c38 : (am_and (scr.2 x3.toNat) 63) = 35
                                                                          · have H := H.1 c38
                                                                            rw [show am_tsw 0 40 [212, 275, 298, 321, 354, 377, 410, 433, 456, 489, 522, 545, 568, 601, 624, 657, 680, 703, 726, 749, 782, 816, 829, 852, 865, 888, 911, 935, 968, 1001, 1024, 1047, 1060, 1073, 1106, 1139, 1182, 1256, 1289, 1312, 1335] 1358 (am_and (scr.2 x3.toNat) 63) = 1139 by rw [c38]; rfl]
                                                                            exact H
                                                                          · have H := H.2
                                                                            by_cases c39 : (am_and (scr.2 x3.toNat) 63) = 36
                                                                            · have H := H.1 c39
                                                                              rw [show am_tsw 0 40 [212, 275, 298, 321, 354, 377, 410, 433, 456, 489, 522, 545, 568, 601, 624, 657, 680, 703, 726, 749, 782, 816, 829, 852, 865, 888, 911, 935, 968, 1001, 1024, 1047, 1060, 1073, 1106, 1139, 1182, 1256, 1289, 1312, 1335] 1358 (am_and (scr.2 x3.toNat) 63) = 1182 by rw [c39]; rfl]
                                                                              exact H
                                                                            · have H := H.2
                                                                              by_cases c40 : (am_and (scr.2 x3.toNat) 63) = 37
                                                                              · have H := H.1 c40
                                                                                rw [show am_tsw 0 40 [212, 275, 298, 321, 354, 377, 410, 433, 456, 489, 522, 545, 568, 601, 624, 657, 680, 703, 726, 749, 782, 816, 829, 852, 865, 888, 911, 935, 968, 1001, 1024, 1047, 1060, 1073, 1106, 1139, 1182, 1256, 1289, 1312, 1335] 1358 (am_and (scr.2 x3.toNat) 63) = 1256 by rw [c40]; rfl]
                                                                                exact H
                                                                              · have H := H.2
                                                                                by_cases c41 : (am_and (scr.2 x3.toNat) 63) = 38
                                                                                · have H := H.1 c41
                                                                                  rw [show am_tsw 0 40 [212, 275, 298, 321, 354, 377, 410, 433, 456, 489, 522, 545, 568, 601, 624, 657, 680, 703, 726, 749, 782, 816, 829, 852, 865, 888, 911, 935, 968, 1001, 1024, 1047, 1060, 1073, 1106, 1139, 1182, 1256, 1289, 1312, 1335] 1358 (am_and (scr.2 x3.toNat) 63) = 1289 by rw [c41]; rfl]
                                                                                  exact H
                                                                                · have H := H.2
                                                                                  by_cases c42 : (am_and (scr.2 x3.toNat) 63) = 39
                                                                                  · have H := H.1 c42
                                                                                    rw [show am_tsw 0 40 [212, 275, 298, 321, 354, 377, 410, 433, 456, 489, 522, 545, 568, 601, 624, 657, 680, 703, 726, 749, 782, 816, 829, 852, 865, 888, 911, 935, 968, 1001, 1024, 1047, 1060, 1073, 1106, 1139, 1182, 1256, 1289, 1312, 1335] 1358 (am_and (scr.2 x3.toNat) 63) = 1312 by rw [c42]; rfl]
                                                                                    exact H
                                                                                  · have H := H.2
                                                                                    by_cases c43 : (am_and (scr.2 x3.toNat) 63) = 40
                                                                                    · have H := H.1 c43
                                                                                      rw [show am_tsw 0 40 [212, 275, 298, 321, 354, 377, 410, 433, 456, 489, 522, 545, 568, 601, 624, 657, 680, 703, 726, 749, 782, 816, 829, 852, 865, 888, 911, 935, 968, 1001, 1024, 1047, 1060, 1073, 1106, 1139, 1182, 1256, 1289, 1312, 1335] 1358 (am_and (scr.2 x3.toNat) 63) = 1335 by rw [c43]; rfl]
                                                                                      exact H
                                                                                    · have H := H.2
                                                                                      have H := H ⟨c3, c4, c5, c6, c7, c8, c9, c10, c11, c12, c13, c14, c15, c16, c17, c18, c19, c20, c21, c22, c23, c24, c25, c26, c27, c28, c29, c30, c31, c32, c33, c34, c35, c36, c37, c38, c39, c40, c41, c42, c43⟩
                                                                                      rw [show am_tsw 0 40 [212, 275, 298, 321, 354, 377, 410, 433, 456, 489, 522, 545, 568, 601, 624, 657, 680, 703, 726, 749, 782, 816, 829, 852, 865, 888, 911, 935, 968, 1001, 1024, 1047, 1060, 1073, 1106, 1139, 1182, 1256, 1289, 1312, 1335] 1358 (am_and (scr.2 x3.toNat) 63) = 1358 from tsw_d (by decide) (fun j hj => match j, hj with | 0, _ => Or.inr (fun e => c3 (e.trans (by decide))) | 1, _ => Or.inr (fun e => c4 (e.trans (by decide))) | 2, _ => Or.inr (fun e => c5 (e.trans (by decide))) | 3, _ => Or.inr (fun e => c6 (e.trans (by decide))) | 4, _ => Or.inr (fun e => c7 (e.trans (by decide))) | 5, _ => Or.inr (fun e => c8 (e.trans (by decide))) | 6, _ => Or.inr (fun e => c9 (e.trans (by decide))) | 7, _ => Or.inr (fun e => c10 (e.trans (by decide))) | 8, _ => Or.inr (fun e => c11 (e.trans (by decide))) | 9, _ => Or.inr (fun e => c12 (e.trans (by decide))) | 10, _ => Or.inr (fun e => c13 (e.trans (by decide))) | 11, _ => Or.inr (fun e => c14 (e.trans (by decide))) | 12, _ => Or.inr (fun e => c15 (e.trans (by decide))) | 13, _ => Or.inr (fun e => c16 (e.trans (by decide))) | 14, _ => Or.inr (fun e => c17 (e.trans (by decide))) | 15, _ => Or.inr (fun e => c18 (e.trans (by decide))) | 16, _ => Or.inr (fun e => c19 (e.trans (by decide))) | 17, _ => Or.inr (fun e => c20 (e.trans (by decide))) | 18, _ => Or.inr (fun e => c21 (e.trans (by decide))) | 19, _ => Or.inr (fun e => c22 (e.trans (by decide))) | 20, _ => Or.inr (fun e => c23 (e.trans (by decide))) | 21, _ => Or.inr (fun e => c24 (e.trans (by decide))) | 22, _ => Or.inr (fun e => c25 (e.trans (by decide))) | 23, _ => Or.inr (fun e => c26 (e.trans (by decide))) | 24, _ => Or.inr (fun e => c27 (e.trans (by decide))) | 25, _ => Or.inr (fun e => c28 (e.trans (by decide))) | 26, _ => Or.inr (fun e => c29 (e.trans (by decide))) | 27, _ => Or.inr (fun e => c30 (e.trans (by decide))) | 28, _ => Or.inr (fun e => c31 (e.trans (by decide))) | 29, _ => Or.inr (fun e => c32 (e.trans (by decide))) | 30, _ => Or.inr (fun e => c33 (e.trans (by decide))) | 31, _ => Or.inr (fun e => c34 (e.trans (by decide))) | 32, _ => Or.inr (fun e => c35 (e.trans (by decide))) | 33, _ => Or.inr (fun e => c36 (e.trans (by decide))) | 34, _ => Or.inr (fun e => c37 (e.trans (by decide))) | 35, _ => Or.inr (fun e => c38 (e.trans (by decide))) | 36, _ => Or.inr (fun e => c39 (e.trans (by decide))) | 37, _ => Or.inr (fun e => c40 (e.trans (by decide))) | 38, _ => Or.inr (fun e => c41 (e.trans (by decide))) | 39, _ => Or.inr (fun e => c42 (e.trans (by decide))) | 40, _ => Or.inr (fun e => c43 (e.trans (by decide))) | n + 41, hj => absurd hj (Nat.not_lt.mpr (Nat.le_add_left 41 n)))]
                                                                                      obtain ⟨y2, ey2⟩ : ∃ z : Int, z = am_w (x3 + 6) := ⟨_, rfl⟩
                                                                                      have H := H y2 ey2
                                                                                      refine am_R.next (lv' := [some (.inr (.inr (-1000))), some (.inr (.inr ((0 : Nat) : Int))), some (.inr (.inr ((109 : Nat) : Int))), some (.inl y2)]) (st' := []) (h' := h) (pc' := 1361) ((hp 1358).trans rfl) (by rw [ey2]; rfl) ?_
                                                                                      refine am_R.next ((hp 1361).trans rfl) rfl ?_
                                                                                      exact H
theorem w_L_law_212 {scr : Nat × (Nat → Int)} {d : Nat} {h : am_H} {Q : Option am_V → am_H → Prop} {x3 : Int} (hs : am_sc scr) (hw : wf h) (H : (0 ≤ (am_w (x3 + 1)) ∧ (am_w (x3 + 1)) < (scr.1 : Int)) ∧ ((0 ≤ (am_w (x3 + 2)) ∧ (am_w (x3 + 2)) < (scr.1 : Int)) ∧ ((0 ≤ (am_w (x3 + 3)) ∧ (am_w (x3 + 3)) < (scr.1 : Int)) ∧ ((0 ≤ (am_w (x3 + 4)) ∧ (am_w (x3 + 4)) < (scr.1 : Int)) ∧ ((0 ≤ (am_w (x3 + 5)) ∧ (am_w (x3 + 5)) < (scr.1 : Int)) ∧ (am_R (am_prog scr) d f_S_feed 0 [some (.inr (.inr ((0 : Nat) : Int))), some (.inl (scr.2 ((am_w (x3 + 1)).toNat))), some (.inl (scr.2 ((am_w (x3 + 2)).toNat))), some (.inl (scr.2 ((am_w (x3 + 3)).toNat))), some (.inl (scr.2 ((am_w (x3 + 4)).toNat))), some (.inl (scr.2 ((am_w (x3 + 5)).toNat)))] [] h (fun v g6 => ∃ r7 : Int, v = some (.inl r7) ∧ wf g6 ∧ ((0 ≤ (am_w (x3 + 1)) ∧ (am_w (x3 + 1)) < (scr.1 : Int)) ∧ ((0 ≤ (am_w (x3 + 2)) ∧ (am_w (x3 + 2)) < (scr.1 : Int)) ∧ ((0 ≤ (am_w (x3 + 3)) ∧ (am_w (x3 + 3)) < (scr.1 : Int)) ∧ ((0 ≤ (am_w (x3 + 4)) ∧ (am_w (x3 + 4)) < (scr.1 : Int)) ∧ ((0 ≤ (am_w (x3 + 5)) ∧ (am_w (x3 + 5)) < (scr.1 : Int)) ∧ (am_R (am_prog scr) d f_M_feed 0 [some (.inr (.inr ((109 : Nat) : Int))), some (.inl (scr.2 ((am_w (x3 + 1)).toNat))), some (.inl (scr.2 ((am_w (x3 + 2)).toNat))), some (.inl (scr.2 ((am_w (x3 + 3)).toNat))), some (.inl (scr.2 ((am_w (x3 + 4)).toNat))), some (.inl (scr.2 ((am_w (x3 + 5)).toNat))), none, none] [] g6 (fun v g13 => ∃ r14 : Int, v = some (.inl r14) ∧ wf g13 ∧ ((r7 = r14 → (∀ y15 : Int, y15 = am_w (x3 + 6) → (am_R (am_prog scr) (d + 1) f_L_law 18 [some (.inr (.inr (-1000))), some (.inr (.inr ((0 : Nat) : Int))), some (.inr (.inr ((109 : Nat) : Int))), some (.inl y15)] [] g13 Q))) ∧ (¬ (r7 = r14) → (Q (some (.inl 0)) g13))))))))))))))))) : am_R (am_prog scr) (d + 1) f_L_law 212 [some (.inr (.inr (-1000))), some (.inr (.inr ((0 : Nat) : Int))), some (.inr (.inr ((109 : Nat) : Int))), some (.inl x3)] [] h Q := by
  have hp : ∀ k, (am_prog scr).1 f_L_law k = c_L_law scr k := fun _ => rfl
  refine am_R.next ((hp 212).trans rfl) rfl ?_
  refine am_R.next ((hp 213).trans rfl) rfl ?_
  refine am_R.next ((hp 214).trans rfl) rfl ?_
  refine am_R.next ((hp 215).trans rfl) rfl ?_
  refine am_R.next ((hp 216).trans rfl) rfl ?_
  obtain ⟨c1, H⟩ := H
  refine r_sld ((hp 217).trans rfl) c1 ?_
  refine am_R.next ((hp 218).trans rfl) rfl ?_
  refine am_R.next ((hp 219).trans rfl) rfl ?_
  refine am_R.next ((hp 220).trans rfl) rfl ?_
  refine am_R.next ((hp 221).trans rfl) rfl ?_
  obtain ⟨c2, H⟩ := H
  refine r_sld ((hp 222).trans rfl) c2 ?_
  refine am_R.next ((hp 223).trans rfl) rfl ?_
  refine am_R.next ((hp 224).trans rfl) rfl ?_
  refine am_R.next ((hp 225).trans rfl) rfl ?_
  refine am_R.next ((hp 226).trans rfl) rfl ?_
  obtain ⟨c3, H⟩ := H
  refine r_sld ((hp 227).trans rfl) c3 ?_
  refine am_R.next ((hp 228).trans rfl) rfl ?_
  refine am_R.next ((hp 229).trans rfl) rfl ?_
  refine am_R.next ((hp 230).trans rfl) rfl ?_
  refine am_R.next ((hp 231).trans rfl) rfl ?_
  obtain ⟨c4, H⟩ := H
  refine r_sld ((hp 232).trans rfl) c4 ?_
  refine am_R.next ((hp 233).trans rfl) rfl ?_
  refine am_R.next ((hp 234).trans rfl) rfl ?_
  refine am_R.next ((hp 235).trans rfl) rfl ?_
  refine am_R.next ((hp 236).trans rfl) rfl ?_
  obtain ⟨c5, H⟩ := H
  refine r_sld ((hp 237).trans rfl) c5 ?_
  refine r_cv (bs := [.inl (scr.2 ((am_w (x3 + 1)).toNat)), .inl (scr.2 ((am_w (x3 + 2)).toNat)), .inl (scr.2 ((am_w (x3 + 3)).toNat)), .inl (scr.2 ((am_w (x3 + 4)).toNat)), .inl (scr.2 ((am_w (x3 + 5)).toNat))]) (st' := []) ((hp 238).trans rfl) (hw.o (i := 0) (by decide) rfl) rfl rfl (Nat.le_of_ble_eq_true rfl) (Nat.le_of_ble_eq_true rfl) (am_R.post H (fun v g6 hq => ?_))
  obtain ⟨r7, rfl, hw, H⟩ := hq
  change am_R _ _ _ _ _ [.inl r7] _ _
  refine am_R.next ((hp 241).trans rfl) rfl ?_
  refine am_R.next ((hp 242).trans rfl) rfl ?_
  refine am_R.next ((hp 243).trans rfl) rfl ?_
  refine am_R.next ((hp 244).trans rfl) rfl ?_
  refine am_R.next ((hp 245).trans rfl) rfl ?_
  obtain ⟨c8, H⟩ := H
  refine r_sld ((hp 246).trans rfl) c8 ?_
  refine am_R.next ((hp 247).trans rfl) rfl ?_
  refine am_R.next ((hp 248).trans rfl) rfl ?_
  refine am_R.next ((hp 249).trans rfl) rfl ?_
  refine am_R.next ((hp 250).trans rfl) rfl ?_
  obtain ⟨c9, H⟩ := H
  refine r_sld ((hp 251).trans rfl) c9 ?_
  refine am_R.next ((hp 252).trans rfl) rfl ?_
  refine am_R.next ((hp 253).trans rfl) rfl ?_
  refine am_R.next ((hp 254).trans rfl) rfl ?_
  refine am_R.next ((hp 255).trans rfl) rfl ?_
  obtain ⟨c10, H⟩ := H
  refine r_sld ((hp 256).trans rfl) c10 ?_
  refine am_R.next ((hp 257).trans rfl) rfl ?_
  refine am_R.next ((hp 258).trans rfl) rfl ?_
  refine am_R.next ((hp 259).trans rfl) rfl ?_
  refine am_R.next ((hp 260).trans rfl) rfl ?_
  obtain ⟨c11, H⟩ := H
  refine r_sld ((hp 261).trans rfl) c11 ?_
  refine am_R.next ((hp 262).trans rfl) rfl ?_
  refine am_R.next ((hp 263).trans rfl) rfl ?_
  refine am_R.next ((hp 264).trans rfl) rfl ?_
  refine am_R.next ((hp 265).trans rfl) rfl ?_
  obtain ⟨c12, H⟩ := H
  refine r_sld ((hp 266).trans rfl) c12 ?_
  refine r_cv (bs := [.inl (scr.2 ((am_w (x3 + 1)).toNat)), .inl (scr.2 ((am_w (x3 + 2)).toNat)), .inl (scr.2 ((am_w (x3 + 3)).toNat)), .inl (scr.2 ((am_w (x3 + 4)).toNat)), .inl (scr.2 ((am_w (x3 + 5)).toNat))]) (st' := [.inl r7]) ((hp 267).trans rfl) (hw.o (i := 109) (by decide) rfl) rfl rfl (Nat.le_of_ble_eq_true rfl) (Nat.le_of_ble_eq_true rfl) (am_R.post H (fun v g13 hq => ?_))
  obtain ⟨r14, rfl, hw, H⟩ := hq
  change am_R _ _ _ _ _ [.inl r14, .inl r7] _ _
  refine r_ic ((hp 270).trans rfl) (fun c16 => ?_) (fun c16 => ?_)
  · have H := H.1 c16
    obtain ⟨y15, ey15⟩ : ∃ z : Int, z = am_w (x3 + 6) := ⟨_, rfl⟩
    have H := H y15 ey15
    refine am_R.next (lv' := [some (.inr (.inr (-1000))), some (.inr (.inr ((0 : Nat) : Int))), some (.inr (.inr ((109 : Nat) : Int))), some (.inl y15)]) (st' := []) (h' := g13) (pc' := 1361) ((hp 1358).trans rfl) (by rw [ey15]; rfl) ?_
    refine am_R.next ((hp 1361).trans rfl) rfl ?_
    exact H
  · have H := H.2 c16
    refine am_R.next ((hp 273).trans rfl) rfl ?_
    exact r_zret ((hp 274).trans rfl) (Or.inl rfl) H
theorem w_L_law_275 {scr : Nat × (Nat → Int)} {d : Nat} {h : am_H} {Q : Option am_V → am_H → Prop} {x3 : Int} (hs : am_sc scr) (hw : wf h) (H : (0 ≤ (am_w (x3 + 1)) ∧ (am_w (x3 + 1)) < (scr.1 : Int)) ∧ (am_R (am_prog scr) d f_S_house 0 [some (.inr (.inr ((0 : Nat) : Int))), some (.inl (scr.2 ((am_w (x3 + 1)).toNat))), none] [] h (fun v g2 => ∃ r3 : Int, v = some (.inl r3) ∧ wf g2 ∧ ((0 ≤ (am_w (x3 + 1)) ∧ (am_w (x3 + 1)) < (scr.1 : Int)) ∧ (am_R (am_prog scr) d f_M_house 0 [some (.inr (.inr ((109 : Nat) : Int))), some (.inl (scr.2 ((am_w (x3 + 1)).toNat))), none] [] g2 (fun v g5 => ∃ r6 : Int, v = some (.inl r6) ∧ wf g5 ∧ ((r3 = r6 → (∀ y7 : Int, y7 = am_w (x3 + 6) → (am_R (am_prog scr) (d + 1) f_L_law 18 [some (.inr (.inr (-1000))), some (.inr (.inr ((0 : Nat) : Int))), some (.inr (.inr ((109 : Nat) : Int))), some (.inl y7)] [] g5 Q))) ∧ (¬ (r3 = r6) → (Q (some (.inl 0)) g5))))))))) : am_R (am_prog scr) (d + 1) f_L_law 275 [some (.inr (.inr (-1000))), some (.inr (.inr ((0 : Nat) : Int))), some (.inr (.inr ((109 : Nat) : Int))), some (.inl x3)] [] h Q := by
  have hp : ∀ k, (am_prog scr).1 f_L_law k = c_L_law scr k := fun _ => rfl
  refine am_R.next ((hp 275).trans rfl) rfl ?_
  refine am_R.next ((hp 276).trans rfl) rfl ?_
  refine am_R.next ((hp 277).trans rfl) rfl ?_
  refine am_R.next ((hp 278).trans rfl) rfl ?_
  refine am_R.next ((hp 279).trans rfl) rfl ?_
  obtain ⟨c1, H⟩ := H
  refine r_sld ((hp 280).trans rfl) c1 ?_
  refine r_cv (bs := [.inl (scr.2 ((am_w (x3 + 1)).toNat))]) (st' := []) ((hp 281).trans rfl) (hw.o (i := 0) (by decide) rfl) rfl rfl (Nat.le_of_ble_eq_true rfl) (Nat.le_of_ble_eq_true rfl) (am_R.post H (fun v g2 hq => ?_))
  obtain ⟨r3, rfl, hw, H⟩ := hq
  change am_R _ _ _ _ _ [.inl r3] _ _
  refine am_R.next ((hp 284).trans rfl) rfl ?_
  refine am_R.next ((hp 285).trans rfl) rfl ?_
  refine am_R.next ((hp 286).trans rfl) rfl ?_
  refine am_R.next ((hp 287).trans rfl) rfl ?_
  refine am_R.next ((hp 288).trans rfl) rfl ?_
  obtain ⟨c4, H⟩ := H
  refine r_sld ((hp 289).trans rfl) c4 ?_
  refine r_cv (bs := [.inl (scr.2 ((am_w (x3 + 1)).toNat))]) (st' := [.inl r3]) ((hp 290).trans rfl) (hw.o (i := 109) (by decide) rfl) rfl rfl (Nat.le_of_ble_eq_true rfl) (Nat.le_of_ble_eq_true rfl) (am_R.post H (fun v g5 hq => ?_))
  obtain ⟨r6, rfl, hw, H⟩ := hq
  change am_R _ _ _ _ _ [.inl r6, .inl r3] _ _
  refine r_ic ((hp 293).trans rfl) (fun c8 => ?_) (fun c8 => ?_)
  · have H := H.1 c8
    obtain ⟨y7, ey7⟩ : ∃ z : Int, z = am_w (x3 + 6) := ⟨_, rfl⟩
    have H := H y7 ey7
    refine am_R.next (lv' := [some (.inr (.inr (-1000))), some (.inr (.inr ((0 : Nat) : Int))), some (.inr (.inr ((109 : Nat) : Int))), some (.inl y7)]) (st' := []) (h' := g5) (pc' := 1361) ((hp 1358).trans rfl) (by rw [ey7]; rfl) ?_
    refine am_R.next ((hp 1361).trans rfl) rfl ?_
    exact H
  · have H := H.2 c8
    refine am_R.next ((hp 296).trans rfl) rfl ?_
    exact r_zret ((hp 297).trans rfl) (Or.inl rfl) H
theorem w_L_law_298 {scr : Nat × (Nat → Int)} {d : Nat} {h : am_H} {Q : Option am_V → am_H → Prop} {x3 : Int} (hs : am_sc scr) (hw : wf h) (H : (0 ≤ (am_w (x3 + 1)) ∧ (am_w (x3 + 1)) < (scr.1 : Int)) ∧ (am_R (am_prog scr) d f_S_fault 0 [some (.inr (.inr ((0 : Nat) : Int))), some (.inl (scr.2 ((am_w (x3 + 1)).toNat)))] [] h (fun v g2 => ∃ r3 : Int, v = some (.inl r3) ∧ wf g2 ∧ ((0 ≤ (am_w (x3 + 1)) ∧ (am_w (x3 + 1)) < (scr.1 : Int)) ∧ (am_R (am_prog scr) d f_M_fault 0 [some (.inr (.inr ((109 : Nat) : Int))), some (.inl (scr.2 ((am_w (x3 + 1)).toNat)))] [] g2 (fun v g5 => ∃ r6 : Int, v = some (.inl r6) ∧ wf g5 ∧ ((r3 = r6 → (∀ y7 : Int, y7 = am_w (x3 + 6) → (am_R (am_prog scr) (d + 1) f_L_law 18 [some (.inr (.inr (-1000))), some (.inr (.inr ((0 : Nat) : Int))), some (.inr (.inr ((109 : Nat) : Int))), some (.inl y7)] [] g5 Q))) ∧ (¬ (r3 = r6) → (Q (some (.inl 0)) g5))))))))) : am_R (am_prog scr) (d + 1) f_L_law 298 [some (.inr (.inr (-1000))), some (.inr (.inr ((0 : Nat) : Int))), some (.inr (.inr ((109 : Nat) : Int))), some (.inl x3)] [] h Q := by
  have hp : ∀ k, (am_prog scr).1 f_L_law k = c_L_law scr k := fun _ => rfl
  refine am_R.next ((hp 298).trans rfl) rfl ?_
  refine am_R.next ((hp 299).trans rfl) rfl ?_
  refine am_R.next ((hp 300).trans rfl) rfl ?_
  refine am_R.next ((hp 301).trans rfl) rfl ?_
  refine am_R.next ((hp 302).trans rfl) rfl ?_
  obtain ⟨c1, H⟩ := H
  refine r_sld ((hp 303).trans rfl) c1 ?_
  refine r_cv (bs := [.inl (scr.2 ((am_w (x3 + 1)).toNat))]) (st' := []) ((hp 304).trans rfl) (hw.o (i := 0) (by decide) rfl) rfl rfl (Nat.le_of_ble_eq_true rfl) (Nat.le_of_ble_eq_true rfl) (am_R.post H (fun v g2 hq => ?_))
  obtain ⟨r3, rfl, hw, H⟩ := hq
  change am_R _ _ _ _ _ [.inl r3] _ _
  refine am_R.next ((hp 307).trans rfl) rfl ?_
  refine am_R.next ((hp 308).trans rfl) rfl ?_
  refine am_R.next ((hp 309).trans rfl) rfl ?_
  refine am_R.next ((hp 310).trans rfl) rfl ?_
  refine am_R.next ((hp 311).trans rfl) rfl ?_
  obtain ⟨c4, H⟩ := H
  refine r_sld ((hp 312).trans rfl) c4 ?_
  refine r_cv (bs := [.inl (scr.2 ((am_w (x3 + 1)).toNat))]) (st' := [.inl r3]) ((hp 313).trans rfl) (hw.o (i := 109) (by decide) rfl) rfl rfl (Nat.le_of_ble_eq_true rfl) (Nat.le_of_ble_eq_true rfl) (am_R.post H (fun v g5 hq => ?_))
  obtain ⟨r6, rfl, hw, H⟩ := hq
  change am_R _ _ _ _ _ [.inl r6, .inl r3] _ _
  refine r_ic ((hp 316).trans rfl) (fun c8 => ?_) (fun c8 => ?_)
  · have H := H.1 c8
    obtain ⟨y7, ey7⟩ : ∃ z : Int, z = am_w (x3 + 6) := ⟨_, rfl⟩
    have H := H y7 ey7
    refine am_R.next (lv' := [some (.inr (.inr (-1000))), some (.inr (.inr ((0 : Nat) : Int))), some (.inr (.inr ((109 : Nat) : Int))), some (.inl y7)]) (st' := []) (h' := g5) (pc' := 1361) ((hp 1358).trans rfl) (by rw [ey7]; rfl) ?_
    refine am_R.next ((hp 1361).trans rfl) rfl ?_
    exact H
  · have H := H.2 c8
    refine am_R.next ((hp 319).trans rfl) rfl ?_
    exact r_zret ((hp 320).trans rfl) (Or.inl rfl) H
theorem w_L_law_321 {scr : Nat × (Nat → Int)} {d : Nat} {h : am_H} {Q : Option am_V → am_H → Prop} {x3 : Int} (hs : am_sc scr) (hw : wf h) (H : (0 ≤ (am_w (x3 + 1)) ∧ (am_w (x3 + 1)) < (scr.1 : Int)) ∧ ((0 ≤ (am_w (x3 + 2)) ∧ (am_w (x3 + 2)) < (scr.1 : Int)) ∧ (am_R (am_prog scr) d f_S_sleeper 0 [some (.inr (.inr ((0 : Nat) : Int))), some (.inl (scr.2 ((am_w (x3 + 1)).toNat))), some (.inl (scr.2 ((am_w (x3 + 2)).toNat)))] [] h (fun v g3 => ∃ r4 : Int, v = some (.inl r4) ∧ wf g3 ∧ ((0 ≤ (am_w (x3 + 1)) ∧ (am_w (x3 + 1)) < (scr.1 : Int)) ∧ ((0 ≤ (am_w (x3 + 2)) ∧ (am_w (x3 + 2)) < (scr.1 : Int)) ∧ (am_R (am_prog scr) d f_M_sleeper 0 [some (.inr (.inr ((109 : Nat) : Int))), some (.inl (scr.2 ((am_w (x3 + 1)).toNat))), some (.inl (scr.2 ((am_w (x3 + 2)).toNat)))] [] g3 (fun v g7 => ∃ r8 : Int, v = some (.inl r8) ∧ wf g7 ∧ ((r4 = r8 → (∀ y9 : Int, y9 = am_w (x3 + 6) → (am_R (am_prog scr) (d + 1) f_L_law 18 [some (.inr (.inr (-1000))), some (.inr (.inr ((0 : Nat) : Int))), some (.inr (.inr ((109 : Nat) : Int))), some (.inl y9)] [] g7 Q))) ∧ (¬ (r4 = r8) → (Q (some (.inl 0)) g7))))))))))) : am_R (am_prog scr) (d + 1) f_L_law 321 [some (.inr (.inr (-1000))), some (.inr (.inr ((0 : Nat) : Int))), some (.inr (.inr ((109 : Nat) : Int))), some (.inl x3)] [] h Q := by
  have hp : ∀ k, (am_prog scr).1 f_L_law k = c_L_law scr k := fun _ => rfl
  refine am_R.next ((hp 321).trans rfl) rfl ?_
  refine am_R.next ((hp 322).trans rfl) rfl ?_
  refine am_R.next ((hp 323).trans rfl) rfl ?_
  refine am_R.next ((hp 324).trans rfl) rfl ?_
  refine am_R.next ((hp 325).trans rfl) rfl ?_
  obtain ⟨c1, H⟩ := H
  refine r_sld ((hp 326).trans rfl) c1 ?_
  refine am_R.next ((hp 327).trans rfl) rfl ?_
  refine am_R.next ((hp 328).trans rfl) rfl ?_
  refine am_R.next ((hp 329).trans rfl) rfl ?_
  refine am_R.next ((hp 330).trans rfl) rfl ?_
  obtain ⟨c2, H⟩ := H
  refine r_sld ((hp 331).trans rfl) c2 ?_
  refine r_cv (bs := [.inl (scr.2 ((am_w (x3 + 1)).toNat)), .inl (scr.2 ((am_w (x3 + 2)).toNat))]) (st' := []) ((hp 332).trans rfl) (hw.o (i := 0) (by decide) rfl) rfl rfl (Nat.le_of_ble_eq_true rfl) (Nat.le_of_ble_eq_true rfl) (am_R.post H (fun v g3 hq => ?_))
  obtain ⟨r4, rfl, hw, H⟩ := hq
  change am_R _ _ _ _ _ [.inl r4] _ _
  refine am_R.next ((hp 335).trans rfl) rfl ?_
  refine am_R.next ((hp 336).trans rfl) rfl ?_
  refine am_R.next ((hp 337).trans rfl) rfl ?_
  refine am_R.next ((hp 338).trans rfl) rfl ?_
  refine am_R.next ((hp 339).trans rfl) rfl ?_
  obtain ⟨c5, H⟩ := H
  refine r_sld ((hp 340).trans rfl) c5 ?_
  refine am_R.next ((hp 341).trans rfl) rfl ?_
  refine am_R.next ((hp 342).trans rfl) rfl ?_
  refine am_R.next ((hp 343).trans rfl) rfl ?_
  refine am_R.next ((hp 344).trans rfl) rfl ?_
  obtain ⟨c6, H⟩ := H
  refine r_sld ((hp 345).trans rfl) c6 ?_
  refine r_cv (bs := [.inl (scr.2 ((am_w (x3 + 1)).toNat)), .inl (scr.2 ((am_w (x3 + 2)).toNat))]) (st' := [.inl r4]) ((hp 346).trans rfl) (hw.o (i := 109) (by decide) rfl) rfl rfl (Nat.le_of_ble_eq_true rfl) (Nat.le_of_ble_eq_true rfl) (am_R.post H (fun v g7 hq => ?_))
  obtain ⟨r8, rfl, hw, H⟩ := hq
  change am_R _ _ _ _ _ [.inl r8, .inl r4] _ _
  refine r_ic ((hp 349).trans rfl) (fun c10 => ?_) (fun c10 => ?_)
  · have H := H.1 c10
    obtain ⟨y9, ey9⟩ : ∃ z : Int, z = am_w (x3 + 6) := ⟨_, rfl⟩
    have H := H y9 ey9
    refine am_R.next (lv' := [some (.inr (.inr (-1000))), some (.inr (.inr ((0 : Nat) : Int))), some (.inr (.inr ((109 : Nat) : Int))), some (.inl y9)]) (st' := []) (h' := g7) (pc' := 1361) ((hp 1358).trans rfl) (by rw [ey9]; rfl) ?_
    refine am_R.next ((hp 1361).trans rfl) rfl ?_
    exact H
  · have H := H.2 c10
    refine am_R.next ((hp 352).trans rfl) rfl ?_
    exact r_zret ((hp 353).trans rfl) (Or.inl rfl) H
theorem w_L_law_354 {scr : Nat × (Nat → Int)} {d : Nat} {h : am_H} {Q : Option am_V → am_H → Prop} {x3 : Int} (hs : am_sc scr) (hw : wf h) (H : (0 ≤ (am_w (x3 + 1)) ∧ (am_w (x3 + 1)) < (scr.1 : Int)) ∧ (am_R (am_prog scr) d f_S_would 0 [some (.inr (.inr ((0 : Nat) : Int))), some (.inl (scr.2 ((am_w (x3 + 1)).toNat)))] [] h (fun v g2 => ∃ r3 : Int, v = some (.inl r3) ∧ wf g2 ∧ ((0 ≤ (am_w (x3 + 1)) ∧ (am_w (x3 + 1)) < (scr.1 : Int)) ∧ (am_R (am_prog scr) d f_M_would 0 [some (.inr (.inr ((109 : Nat) : Int))), some (.inl (scr.2 ((am_w (x3 + 1)).toNat)))] [] g2 (fun v g5 => ∃ r6 : Int, v = some (.inl r6) ∧ wf g5 ∧ ((r3 = r6 → (∀ y7 : Int, y7 = am_w (x3 + 6) → (am_R (am_prog scr) (d + 1) f_L_law 18 [some (.inr (.inr (-1000))), some (.inr (.inr ((0 : Nat) : Int))), some (.inr (.inr ((109 : Nat) : Int))), some (.inl y7)] [] g5 Q))) ∧ (¬ (r3 = r6) → (Q (some (.inl 0)) g5))))))))) : am_R (am_prog scr) (d + 1) f_L_law 354 [some (.inr (.inr (-1000))), some (.inr (.inr ((0 : Nat) : Int))), some (.inr (.inr ((109 : Nat) : Int))), some (.inl x3)] [] h Q := by
  have hp : ∀ k, (am_prog scr).1 f_L_law k = c_L_law scr k := fun _ => rfl
  refine am_R.next ((hp 354).trans rfl) rfl ?_
  refine am_R.next ((hp 355).trans rfl) rfl ?_
  refine am_R.next ((hp 356).trans rfl) rfl ?_
  refine am_R.next ((hp 357).trans rfl) rfl ?_
  refine am_R.next ((hp 358).trans rfl) rfl ?_
  obtain ⟨c1, H⟩ := H
  refine r_sld ((hp 359).trans rfl) c1 ?_
  refine r_cv (bs := [.inl (scr.2 ((am_w (x3 + 1)).toNat))]) (st' := []) ((hp 360).trans rfl) (hw.o (i := 0) (by decide) rfl) rfl rfl (Nat.le_of_ble_eq_true rfl) (Nat.le_of_ble_eq_true rfl) (am_R.post H (fun v g2 hq => ?_))
  obtain ⟨r3, rfl, hw, H⟩ := hq
  change am_R _ _ _ _ _ [.inl r3] _ _
  refine am_R.next ((hp 363).trans rfl) rfl ?_
  refine am_R.next ((hp 364).trans rfl) rfl ?_
  refine am_R.next ((hp 365).trans rfl) rfl ?_
  refine am_R.next ((hp 366).trans rfl) rfl ?_
  refine am_R.next ((hp 367).trans rfl) rfl ?_
  obtain ⟨c4, H⟩ := H
  refine r_sld ((hp 368).trans rfl) c4 ?_
  refine r_cv (bs := [.inl (scr.2 ((am_w (x3 + 1)).toNat))]) (st' := [.inl r3]) ((hp 369).trans rfl) (hw.o (i := 109) (by decide) rfl) rfl rfl (Nat.le_of_ble_eq_true rfl) (Nat.le_of_ble_eq_true rfl) (am_R.post H (fun v g5 hq => ?_))
  obtain ⟨r6, rfl, hw, H⟩ := hq
  change am_R _ _ _ _ _ [.inl r6, .inl r3] _ _
  refine r_ic ((hp 372).trans rfl) (fun c8 => ?_) (fun c8 => ?_)
  · have H := H.1 c8
    obtain ⟨y7, ey7⟩ : ∃ z : Int, z = am_w (x3 + 6) := ⟨_, rfl⟩
    have H := H y7 ey7
    refine am_R.next (lv' := [some (.inr (.inr (-1000))), some (.inr (.inr ((0 : Nat) : Int))), some (.inr (.inr ((109 : Nat) : Int))), some (.inl y7)]) (st' := []) (h' := g5) (pc' := 1361) ((hp 1358).trans rfl) (by rw [ey7]; rfl) ?_
    refine am_R.next ((hp 1361).trans rfl) rfl ?_
    exact H
  · have H := H.2 c8
    refine am_R.next ((hp 375).trans rfl) rfl ?_
    exact r_zret ((hp 376).trans rfl) (Or.inl rfl) H
theorem w_L_law_377 {scr : Nat × (Nat → Int)} {d : Nat} {h : am_H} {Q : Option am_V → am_H → Prop} {x3 : Int} (hs : am_sc scr) (hw : wf h) (H : (0 ≤ (am_w (x3 + 1)) ∧ (am_w (x3 + 1)) < (scr.1 : Int)) ∧ ((0 ≤ (am_w (x3 + 2)) ∧ (am_w (x3 + 2)) < (scr.1 : Int)) ∧ (am_R (am_prog scr) d f_S_by 0 [some (.inr (.inr ((0 : Nat) : Int))), some (.inl (scr.2 ((am_w (x3 + 1)).toNat))), some (.inl (scr.2 ((am_w (x3 + 2)).toNat))), none] [] h (fun v g3 => ∃ r4 : Int, v = some (.inl r4) ∧ wf g3 ∧ ((0 ≤ (am_w (x3 + 1)) ∧ (am_w (x3 + 1)) < (scr.1 : Int)) ∧ ((0 ≤ (am_w (x3 + 2)) ∧ (am_w (x3 + 2)) < (scr.1 : Int)) ∧ (am_R (am_prog scr) d f_M_by 0 [some (.inr (.inr ((109 : Nat) : Int))), some (.inl (scr.2 ((am_w (x3 + 1)).toNat))), some (.inl (scr.2 ((am_w (x3 + 2)).toNat))), none] [] g3 (fun v g7 => ∃ r8 : Int, v = some (.inl r8) ∧ wf g7 ∧ ((r4 = r8 → (∀ y9 : Int, y9 = am_w (x3 + 6) → (am_R (am_prog scr) (d + 1) f_L_law 18 [some (.inr (.inr (-1000))), some (.inr (.inr ((0 : Nat) : Int))), some (.inr (.inr ((109 : Nat) : Int))), some (.inl y9)] [] g7 Q))) ∧ (¬ (r4 = r8) → (Q (some (.inl 0)) g7))))))))))) : am_R (am_prog scr) (d + 1) f_L_law 377 [some (.inr (.inr (-1000))), some (.inr (.inr ((0 : Nat) : Int))), some (.inr (.inr ((109 : Nat) : Int))), some (.inl x3)] [] h Q := by
  have hp : ∀ k, (am_prog scr).1 f_L_law k = c_L_law scr k := fun _ => rfl
  refine am_R.next ((hp 377).trans rfl) rfl ?_
  refine am_R.next ((hp 378).trans rfl) rfl ?_
  refine am_R.next ((hp 379).trans rfl) rfl ?_
  refine am_R.next ((hp 380).trans rfl) rfl ?_
  refine am_R.next ((hp 381).trans rfl) rfl ?_
  obtain ⟨c1, H⟩ := H
  refine r_sld ((hp 382).trans rfl) c1 ?_
  refine am_R.next ((hp 383).trans rfl) rfl ?_
  refine am_R.next ((hp 384).trans rfl) rfl ?_
  refine am_R.next ((hp 385).trans rfl) rfl ?_
  refine am_R.next ((hp 386).trans rfl) rfl ?_
  obtain ⟨c2, H⟩ := H
  refine r_sld ((hp 387).trans rfl) c2 ?_
  refine r_cv (bs := [.inl (scr.2 ((am_w (x3 + 1)).toNat)), .inl (scr.2 ((am_w (x3 + 2)).toNat))]) (st' := []) ((hp 388).trans rfl) (hw.o (i := 0) (by decide) rfl) rfl rfl (Nat.le_of_ble_eq_true rfl) (Nat.le_of_ble_eq_true rfl) (am_R.post H (fun v g3 hq => ?_))
  obtain ⟨r4, rfl, hw, H⟩ := hq
  change am_R _ _ _ _ _ [.inl r4] _ _
  refine am_R.next ((hp 391).trans rfl) rfl ?_
  refine am_R.next ((hp 392).trans rfl) rfl ?_
  refine am_R.next ((hp 393).trans rfl) rfl ?_
  refine am_R.next ((hp 394).trans rfl) rfl ?_
  refine am_R.next ((hp 395).trans rfl) rfl ?_
  obtain ⟨c5, H⟩ := H
  refine r_sld ((hp 396).trans rfl) c5 ?_
  refine am_R.next ((hp 397).trans rfl) rfl ?_
  refine am_R.next ((hp 398).trans rfl) rfl ?_
  refine am_R.next ((hp 399).trans rfl) rfl ?_
  refine am_R.next ((hp 400).trans rfl) rfl ?_
  obtain ⟨c6, H⟩ := H
  refine r_sld ((hp 401).trans rfl) c6 ?_
  refine r_cv (bs := [.inl (scr.2 ((am_w (x3 + 1)).toNat)), .inl (scr.2 ((am_w (x3 + 2)).toNat))]) (st' := [.inl r4]) ((hp 402).trans rfl) (hw.o (i := 109) (by decide) rfl) rfl rfl (Nat.le_of_ble_eq_true rfl) (Nat.le_of_ble_eq_true rfl) (am_R.post H (fun v g7 hq => ?_))
  obtain ⟨r8, rfl, hw, H⟩ := hq
  change am_R _ _ _ _ _ [.inl r8, .inl r4] _ _
  refine r_ic ((hp 405).trans rfl) (fun c10 => ?_) (fun c10 => ?_)
  · have H := H.1 c10
    obtain ⟨y9, ey9⟩ : ∃ z : Int, z = am_w (x3 + 6) := ⟨_, rfl⟩
    have H := H y9 ey9
    refine am_R.next (lv' := [some (.inr (.inr (-1000))), some (.inr (.inr ((0 : Nat) : Int))), some (.inr (.inr ((109 : Nat) : Int))), some (.inl y9)]) (st' := []) (h' := g7) (pc' := 1361) ((hp 1358).trans rfl) (by rw [ey9]; rfl) ?_
    refine am_R.next ((hp 1361).trans rfl) rfl ?_
    exact H
  · have H := H.2 c10
    refine am_R.next ((hp 408).trans rfl) rfl ?_
    exact r_zret ((hp 409).trans rfl) (Or.inl rfl) H
theorem w_L_law_410 {scr : Nat × (Nat → Int)} {d : Nat} {h : am_H} {Q : Option am_V → am_H → Prop} {x3 : Int} (hs : am_sc scr) (hw : wf h) (H : (0 ≤ (am_w (x3 + 1)) ∧ (am_w (x3 + 1)) < (scr.1 : Int)) ∧ (am_R (am_prog scr) d f_S_beat 0 [some (.inr (.inr ((0 : Nat) : Int))), some (.inl (scr.2 ((am_w (x3 + 1)).toNat))), none] [] h (fun v g2 => ∃ r3 : Int, v = some (.inl r3) ∧ wf g2 ∧ ((0 ≤ (am_w (x3 + 1)) ∧ (am_w (x3 + 1)) < (scr.1 : Int)) ∧ (am_R (am_prog scr) d f_M_beat 0 [some (.inr (.inr ((109 : Nat) : Int))), some (.inl (scr.2 ((am_w (x3 + 1)).toNat))), none] [] g2 (fun v g5 => ∃ r6 : Int, v = some (.inl r6) ∧ wf g5 ∧ ((r3 = r6 → (∀ y7 : Int, y7 = am_w (x3 + 6) → (am_R (am_prog scr) (d + 1) f_L_law 18 [some (.inr (.inr (-1000))), some (.inr (.inr ((0 : Nat) : Int))), some (.inr (.inr ((109 : Nat) : Int))), some (.inl y7)] [] g5 Q))) ∧ (¬ (r3 = r6) → (Q (some (.inl 0)) g5))))))))) : am_R (am_prog scr) (d + 1) f_L_law 410 [some (.inr (.inr (-1000))), some (.inr (.inr ((0 : Nat) : Int))), some (.inr (.inr ((109 : Nat) : Int))), some (.inl x3)] [] h Q := by
  have hp : ∀ k, (am_prog scr).1 f_L_law k = c_L_law scr k := fun _ => rfl
  refine am_R.next ((hp 410).trans rfl) rfl ?_
  refine am_R.next ((hp 411).trans rfl) rfl ?_
  refine am_R.next ((hp 412).trans rfl) rfl ?_
  refine am_R.next ((hp 413).trans rfl) rfl ?_
  refine am_R.next ((hp 414).trans rfl) rfl ?_
  obtain ⟨c1, H⟩ := H
  refine r_sld ((hp 415).trans rfl) c1 ?_
  refine r_cv (bs := [.inl (scr.2 ((am_w (x3 + 1)).toNat))]) (st' := []) ((hp 416).trans rfl) (hw.o (i := 0) (by decide) rfl) rfl rfl (Nat.le_of_ble_eq_true rfl) (Nat.le_of_ble_eq_true rfl) (am_R.post H (fun v g2 hq => ?_))
  obtain ⟨r3, rfl, hw, H⟩ := hq
  change am_R _ _ _ _ _ [.inl r3] _ _
  refine am_R.next ((hp 419).trans rfl) rfl ?_
  refine am_R.next ((hp 420).trans rfl) rfl ?_
  refine am_R.next ((hp 421).trans rfl) rfl ?_
  refine am_R.next ((hp 422).trans rfl) rfl ?_
  refine am_R.next ((hp 423).trans rfl) rfl ?_
  obtain ⟨c4, H⟩ := H
  refine r_sld ((hp 424).trans rfl) c4 ?_
  refine r_cv (bs := [.inl (scr.2 ((am_w (x3 + 1)).toNat))]) (st' := [.inl r3]) ((hp 425).trans rfl) (hw.o (i := 109) (by decide) rfl) rfl rfl (Nat.le_of_ble_eq_true rfl) (Nat.le_of_ble_eq_true rfl) (am_R.post H (fun v g5 hq => ?_))
  obtain ⟨r6, rfl, hw, H⟩ := hq
  change am_R _ _ _ _ _ [.inl r6, .inl r3] _ _
  refine r_ic ((hp 428).trans rfl) (fun c8 => ?_) (fun c8 => ?_)
  · have H := H.1 c8
    obtain ⟨y7, ey7⟩ : ∃ z : Int, z = am_w (x3 + 6) := ⟨_, rfl⟩
    have H := H y7 ey7
    refine am_R.next (lv' := [some (.inr (.inr (-1000))), some (.inr (.inr ((0 : Nat) : Int))), some (.inr (.inr ((109 : Nat) : Int))), some (.inl y7)]) (st' := []) (h' := g5) (pc' := 1361) ((hp 1358).trans rfl) (by rw [ey7]; rfl) ?_
    refine am_R.next ((hp 1361).trans rfl) rfl ?_
    exact H
  · have H := H.2 c8
    refine am_R.next ((hp 431).trans rfl) rfl ?_
    exact r_zret ((hp 432).trans rfl) (Or.inl rfl) H
theorem w_L_law_433 {scr : Nat × (Nat → Int)} {d : Nat} {h : am_H} {Q : Option am_V → am_H → Prop} {x3 : Int} (hs : am_sc scr) (hw : wf h) (H : (0 ≤ (am_w (x3 + 1)) ∧ (am_w (x3 + 1)) < (scr.1 : Int)) ∧ (am_R (am_prog scr) d f_S_beats 0 [some (.inr (.inr ((0 : Nat) : Int))), some (.inl (scr.2 ((am_w (x3 + 1)).toNat))), none, none] [] h (fun v g2 => ∃ r3 : Int, v = some (.inl r3) ∧ wf g2 ∧ ((0 ≤ (am_w (x3 + 1)) ∧ (am_w (x3 + 1)) < (scr.1 : Int)) ∧ (am_R (am_prog scr) d f_M_beats 0 [some (.inr (.inr ((109 : Nat) : Int))), some (.inl (scr.2 ((am_w (x3 + 1)).toNat))), none] [] g2 (fun v g5 => ∃ r6 : Int, v = some (.inl r6) ∧ wf g5 ∧ ((r3 = r6 → (∀ y7 : Int, y7 = am_w (x3 + 6) → (am_R (am_prog scr) (d + 1) f_L_law 18 [some (.inr (.inr (-1000))), some (.inr (.inr ((0 : Nat) : Int))), some (.inr (.inr ((109 : Nat) : Int))), some (.inl y7)] [] g5 Q))) ∧ (¬ (r3 = r6) → (Q (some (.inl 0)) g5))))))))) : am_R (am_prog scr) (d + 1) f_L_law 433 [some (.inr (.inr (-1000))), some (.inr (.inr ((0 : Nat) : Int))), some (.inr (.inr ((109 : Nat) : Int))), some (.inl x3)] [] h Q := by
  have hp : ∀ k, (am_prog scr).1 f_L_law k = c_L_law scr k := fun _ => rfl
  refine am_R.next ((hp 433).trans rfl) rfl ?_
  refine am_R.next ((hp 434).trans rfl) rfl ?_
  refine am_R.next ((hp 435).trans rfl) rfl ?_
  refine am_R.next ((hp 436).trans rfl) rfl ?_
  refine am_R.next ((hp 437).trans rfl) rfl ?_
  obtain ⟨c1, H⟩ := H
  refine r_sld ((hp 438).trans rfl) c1 ?_
  refine r_cv (bs := [.inl (scr.2 ((am_w (x3 + 1)).toNat))]) (st' := []) ((hp 439).trans rfl) (hw.o (i := 0) (by decide) rfl) rfl rfl (Nat.le_of_ble_eq_true rfl) (Nat.le_of_ble_eq_true rfl) (am_R.post H (fun v g2 hq => ?_))
  obtain ⟨r3, rfl, hw, H⟩ := hq
  change am_R _ _ _ _ _ [.inl r3] _ _
  refine am_R.next ((hp 442).trans rfl) rfl ?_
  refine am_R.next ((hp 443).trans rfl) rfl ?_
  refine am_R.next ((hp 444).trans rfl) rfl ?_
  refine am_R.next ((hp 445).trans rfl) rfl ?_
  refine am_R.next ((hp 446).trans rfl) rfl ?_
  obtain ⟨c4, H⟩ := H
  refine r_sld ((hp 447).trans rfl) c4 ?_
  refine r_cv (bs := [.inl (scr.2 ((am_w (x3 + 1)).toNat))]) (st' := [.inl r3]) ((hp 448).trans rfl) (hw.o (i := 109) (by decide) rfl) rfl rfl (Nat.le_of_ble_eq_true rfl) (Nat.le_of_ble_eq_true rfl) (am_R.post H (fun v g5 hq => ?_))
  obtain ⟨r6, rfl, hw, H⟩ := hq
  change am_R _ _ _ _ _ [.inl r6, .inl r3] _ _
  refine r_ic ((hp 451).trans rfl) (fun c8 => ?_) (fun c8 => ?_)
  · have H := H.1 c8
    obtain ⟨y7, ey7⟩ : ∃ z : Int, z = am_w (x3 + 6) := ⟨_, rfl⟩
    have H := H y7 ey7
    refine am_R.next (lv' := [some (.inr (.inr (-1000))), some (.inr (.inr ((0 : Nat) : Int))), some (.inr (.inr ((109 : Nat) : Int))), some (.inl y7)]) (st' := []) (h' := g5) (pc' := 1361) ((hp 1358).trans rfl) (by rw [ey7]; rfl) ?_
    refine am_R.next ((hp 1361).trans rfl) rfl ?_
    exact H
  · have H := H.2 c8
    refine am_R.next ((hp 454).trans rfl) rfl ?_
    exact r_zret ((hp 455).trans rfl) (Or.inl rfl) H
theorem w_L_law_456 {scr : Nat × (Nat → Int)} {d : Nat} {h : am_H} {Q : Option am_V → am_H → Prop} {x3 : Int} (hs : am_sc scr) (hw : wf h) (H : (0 ≤ (am_w (x3 + 1)) ∧ (am_w (x3 + 1)) < (scr.1 : Int)) ∧ ((0 ≤ (am_w (x3 + 2)) ∧ (am_w (x3 + 2)) < (scr.1 : Int)) ∧ (am_R (am_prog scr) d f_S_change 0 [some (.inr (.inr ((0 : Nat) : Int))), some (.inl (scr.2 ((am_w (x3 + 1)).toNat))), some (.inl (scr.2 ((am_w (x3 + 2)).toNat)))] [] h (fun v g3 => ∃ r4 : Int, v = some (.inl r4) ∧ wf g3 ∧ ((0 ≤ (am_w (x3 + 1)) ∧ (am_w (x3 + 1)) < (scr.1 : Int)) ∧ ((0 ≤ (am_w (x3 + 2)) ∧ (am_w (x3 + 2)) < (scr.1 : Int)) ∧ (am_R (am_prog scr) d f_M_change 0 [some (.inr (.inr ((109 : Nat) : Int))), some (.inl (scr.2 ((am_w (x3 + 1)).toNat))), some (.inl (scr.2 ((am_w (x3 + 2)).toNat)))] [] g3 (fun v g7 => ∃ r8 : Int, v = some (.inl r8) ∧ wf g7 ∧ ((r4 = r8 → (∀ y9 : Int, y9 = am_w (x3 + 6) → (am_R (am_prog scr) (d + 1) f_L_law 18 [some (.inr (.inr (-1000))), some (.inr (.inr ((0 : Nat) : Int))), some (.inr (.inr ((109 : Nat) : Int))), some (.inl y9)] [] g7 Q))) ∧ (¬ (r4 = r8) → (Q (some (.inl 0)) g7))))))))))) : am_R (am_prog scr) (d + 1) f_L_law 456 [some (.inr (.inr (-1000))), some (.inr (.inr ((0 : Nat) : Int))), some (.inr (.inr ((109 : Nat) : Int))), some (.inl x3)] [] h Q := by
  have hp : ∀ k, (am_prog scr).1 f_L_law k = c_L_law scr k := fun _ => rfl
  refine am_R.next ((hp 456).trans rfl) rfl ?_
  refine am_R.next ((hp 457).trans rfl) rfl ?_
  refine am_R.next ((hp 458).trans rfl) rfl ?_
  refine am_R.next ((hp 459).trans rfl) rfl ?_
  refine am_R.next ((hp 460).trans rfl) rfl ?_
  obtain ⟨c1, H⟩ := H
  refine r_sld ((hp 461).trans rfl) c1 ?_
  refine am_R.next ((hp 462).trans rfl) rfl ?_
  refine am_R.next ((hp 463).trans rfl) rfl ?_
  refine am_R.next ((hp 464).trans rfl) rfl ?_
  refine am_R.next ((hp 465).trans rfl) rfl ?_
  obtain ⟨c2, H⟩ := H
  refine r_sld ((hp 466).trans rfl) c2 ?_
  refine r_cv (bs := [.inl (scr.2 ((am_w (x3 + 1)).toNat)), .inl (scr.2 ((am_w (x3 + 2)).toNat))]) (st' := []) ((hp 467).trans rfl) (hw.o (i := 0) (by decide) rfl) rfl rfl (Nat.le_of_ble_eq_true rfl) (Nat.le_of_ble_eq_true rfl) (am_R.post H (fun v g3 hq => ?_))
  obtain ⟨r4, rfl, hw, H⟩ := hq
  change am_R _ _ _ _ _ [.inl r4] _ _
  refine am_R.next ((hp 470).trans rfl) rfl ?_
  refine am_R.next ((hp 471).trans rfl) rfl ?_
  refine am_R.next ((hp 472).trans rfl) rfl ?_
  refine am_R.next ((hp 473).trans rfl) rfl ?_
  refine am_R.next ((hp 474).trans rfl) rfl ?_
  obtain ⟨c5, H⟩ := H
  refine r_sld ((hp 475).trans rfl) c5 ?_
  refine am_R.next ((hp 476).trans rfl) rfl ?_
  refine am_R.next ((hp 477).trans rfl) rfl ?_
  refine am_R.next ((hp 478).trans rfl) rfl ?_
  refine am_R.next ((hp 479).trans rfl) rfl ?_
  obtain ⟨c6, H⟩ := H
  refine r_sld ((hp 480).trans rfl) c6 ?_
  refine r_cv (bs := [.inl (scr.2 ((am_w (x3 + 1)).toNat)), .inl (scr.2 ((am_w (x3 + 2)).toNat))]) (st' := [.inl r4]) ((hp 481).trans rfl) (hw.o (i := 109) (by decide) rfl) rfl rfl (Nat.le_of_ble_eq_true rfl) (Nat.le_of_ble_eq_true rfl) (am_R.post H (fun v g7 hq => ?_))
  obtain ⟨r8, rfl, hw, H⟩ := hq
  change am_R _ _ _ _ _ [.inl r8, .inl r4] _ _
  refine r_ic ((hp 484).trans rfl) (fun c10 => ?_) (fun c10 => ?_)
  · have H := H.1 c10
    obtain ⟨y9, ey9⟩ : ∃ z : Int, z = am_w (x3 + 6) := ⟨_, rfl⟩
    have H := H y9 ey9
    refine am_R.next (lv' := [some (.inr (.inr (-1000))), some (.inr (.inr ((0 : Nat) : Int))), some (.inr (.inr ((109 : Nat) : Int))), some (.inl y9)]) (st' := []) (h' := g7) (pc' := 1361) ((hp 1358).trans rfl) (by rw [ey9]; rfl) ?_
    refine am_R.next ((hp 1361).trans rfl) rfl ?_
    exact H
  · have H := H.2 c10
    refine am_R.next ((hp 487).trans rfl) rfl ?_
    exact r_zret ((hp 488).trans rfl) (Or.inl rfl) H
theorem w_L_law_489 {scr : Nat × (Nat → Int)} {d : Nat} {h : am_H} {Q : Option am_V → am_H → Prop} {x3 : Int} (hs : am_sc scr) (hw : wf h) (H : (0 ≤ (am_w (x3 + 1)) ∧ (am_w (x3 + 1)) < (scr.1 : Int)) ∧ ((0 ≤ (am_w (x3 + 2)) ∧ (am_w (x3 + 2)) < (scr.1 : Int)) ∧ (am_R (am_prog scr) d f_S_dream 0 [some (.inr (.inr ((0 : Nat) : Int))), some (.inl (scr.2 ((am_w (x3 + 1)).toNat))), some (.inl (scr.2 ((am_w (x3 + 2)).toNat))), none] [] h (fun v g3 => ∃ r4 : Int, v = some (.inl r4) ∧ wf g3 ∧ ((0 ≤ (am_w (x3 + 1)) ∧ (am_w (x3 + 1)) < (scr.1 : Int)) ∧ ((0 ≤ (am_w (x3 + 2)) ∧ (am_w (x3 + 2)) < (scr.1 : Int)) ∧ (am_R (am_prog scr) d f_M_dream 0 [some (.inr (.inr ((109 : Nat) : Int))), some (.inl (scr.2 ((am_w (x3 + 1)).toNat))), some (.inl (scr.2 ((am_w (x3 + 2)).toNat)))] [] g3 (fun v g7 => ∃ r8 : Int, v = some (.inl r8) ∧ wf g7 ∧ ((r4 = r8 → (∀ y9 : Int, y9 = am_w (x3 + 6) → (am_R (am_prog scr) (d + 1) f_L_law 18 [some (.inr (.inr (-1000))), some (.inr (.inr ((0 : Nat) : Int))), some (.inr (.inr ((109 : Nat) : Int))), some (.inl y9)] [] g7 Q))) ∧ (¬ (r4 = r8) → (Q (some (.inl 0)) g7))))))))))) : am_R (am_prog scr) (d + 1) f_L_law 489 [some (.inr (.inr (-1000))), some (.inr (.inr ((0 : Nat) : Int))), some (.inr (.inr ((109 : Nat) : Int))), some (.inl x3)] [] h Q := by
  have hp : ∀ k, (am_prog scr).1 f_L_law k = c_L_law scr k := fun _ => rfl
  refine am_R.next ((hp 489).trans rfl) rfl ?_
  refine am_R.next ((hp 490).trans rfl) rfl ?_
  refine am_R.next ((hp 491).trans rfl) rfl ?_
  refine am_R.next ((hp 492).trans rfl) rfl ?_
  refine am_R.next ((hp 493).trans rfl) rfl ?_
  obtain ⟨c1, H⟩ := H
  refine r_sld ((hp 494).trans rfl) c1 ?_
  refine am_R.next ((hp 495).trans rfl) rfl ?_
  refine am_R.next ((hp 496).trans rfl) rfl ?_
  refine am_R.next ((hp 497).trans rfl) rfl ?_
  refine am_R.next ((hp 498).trans rfl) rfl ?_
  obtain ⟨c2, H⟩ := H
  refine r_sld ((hp 499).trans rfl) c2 ?_
  refine r_cv (bs := [.inl (scr.2 ((am_w (x3 + 1)).toNat)), .inl (scr.2 ((am_w (x3 + 2)).toNat))]) (st' := []) ((hp 500).trans rfl) (hw.o (i := 0) (by decide) rfl) rfl rfl (Nat.le_of_ble_eq_true rfl) (Nat.le_of_ble_eq_true rfl) (am_R.post H (fun v g3 hq => ?_))
  obtain ⟨r4, rfl, hw, H⟩ := hq
  change am_R _ _ _ _ _ [.inl r4] _ _
  refine am_R.next ((hp 503).trans rfl) rfl ?_
  refine am_R.next ((hp 504).trans rfl) rfl ?_
  refine am_R.next ((hp 505).trans rfl) rfl ?_
  refine am_R.next ((hp 506).trans rfl) rfl ?_
  refine am_R.next ((hp 507).trans rfl) rfl ?_
  obtain ⟨c5, H⟩ := H
  refine r_sld ((hp 508).trans rfl) c5 ?_
  refine am_R.next ((hp 509).trans rfl) rfl ?_
  refine am_R.next ((hp 510).trans rfl) rfl ?_
  refine am_R.next ((hp 511).trans rfl) rfl ?_
  refine am_R.next ((hp 512).trans rfl) rfl ?_
  obtain ⟨c6, H⟩ := H
  refine r_sld ((hp 513).trans rfl) c6 ?_
  refine r_cv (bs := [.inl (scr.2 ((am_w (x3 + 1)).toNat)), .inl (scr.2 ((am_w (x3 + 2)).toNat))]) (st' := [.inl r4]) ((hp 514).trans rfl) (hw.o (i := 109) (by decide) rfl) rfl rfl (Nat.le_of_ble_eq_true rfl) (Nat.le_of_ble_eq_true rfl) (am_R.post H (fun v g7 hq => ?_))
  obtain ⟨r8, rfl, hw, H⟩ := hq
  change am_R _ _ _ _ _ [.inl r8, .inl r4] _ _
  refine r_ic ((hp 517).trans rfl) (fun c10 => ?_) (fun c10 => ?_)
  · have H := H.1 c10
    obtain ⟨y9, ey9⟩ : ∃ z : Int, z = am_w (x3 + 6) := ⟨_, rfl⟩
    have H := H y9 ey9
    refine am_R.next (lv' := [some (.inr (.inr (-1000))), some (.inr (.inr ((0 : Nat) : Int))), some (.inr (.inr ((109 : Nat) : Int))), some (.inl y9)]) (st' := []) (h' := g7) (pc' := 1361) ((hp 1358).trans rfl) (by rw [ey9]; rfl) ?_
    refine am_R.next ((hp 1361).trans rfl) rfl ?_
    exact H
  · have H := H.2 c10
    refine am_R.next ((hp 520).trans rfl) rfl ?_
    exact r_zret ((hp 521).trans rfl) (Or.inl rfl) H
theorem w_L_law_522 {scr : Nat × (Nat → Int)} {d : Nat} {h : am_H} {Q : Option am_V → am_H → Prop} {x3 : Int} (hs : am_sc scr) (hw : wf h) (H : (0 ≤ (am_w (x3 + 1)) ∧ (am_w (x3 + 1)) < (scr.1 : Int)) ∧ (am_R (am_prog scr) d f_S_hush 0 [some (.inr (.inr ((0 : Nat) : Int))), some (.inl (scr.2 ((am_w (x3 + 1)).toNat))), none] [] h (fun v g2 => ∃ r3 : Int, v = some (.inl r3) ∧ wf g2 ∧ ((0 ≤ (am_w (x3 + 1)) ∧ (am_w (x3 + 1)) < (scr.1 : Int)) ∧ (am_R (am_prog scr) d f_M_hush 0 [some (.inr (.inr ((109 : Nat) : Int))), some (.inl (scr.2 ((am_w (x3 + 1)).toNat)))] [] g2 (fun v g5 => ∃ r6 : Int, v = some (.inl r6) ∧ wf g5 ∧ ((r3 = r6 → (∀ y7 : Int, y7 = am_w (x3 + 6) → (am_R (am_prog scr) (d + 1) f_L_law 18 [some (.inr (.inr (-1000))), some (.inr (.inr ((0 : Nat) : Int))), some (.inr (.inr ((109 : Nat) : Int))), some (.inl y7)] [] g5 Q))) ∧ (¬ (r3 = r6) → (Q (some (.inl 0)) g5))))))))) : am_R (am_prog scr) (d + 1) f_L_law 522 [some (.inr (.inr (-1000))), some (.inr (.inr ((0 : Nat) : Int))), some (.inr (.inr ((109 : Nat) : Int))), some (.inl x3)] [] h Q := by
  have hp : ∀ k, (am_prog scr).1 f_L_law k = c_L_law scr k := fun _ => rfl
  refine am_R.next ((hp 522).trans rfl) rfl ?_
  refine am_R.next ((hp 523).trans rfl) rfl ?_
  refine am_R.next ((hp 524).trans rfl) rfl ?_
  refine am_R.next ((hp 525).trans rfl) rfl ?_
  refine am_R.next ((hp 526).trans rfl) rfl ?_
  obtain ⟨c1, H⟩ := H
  refine r_sld ((hp 527).trans rfl) c1 ?_
  refine r_cv (bs := [.inl (scr.2 ((am_w (x3 + 1)).toNat))]) (st' := []) ((hp 528).trans rfl) (hw.o (i := 0) (by decide) rfl) rfl rfl (Nat.le_of_ble_eq_true rfl) (Nat.le_of_ble_eq_true rfl) (am_R.post H (fun v g2 hq => ?_))
  obtain ⟨r3, rfl, hw, H⟩ := hq
  change am_R _ _ _ _ _ [.inl r3] _ _
  refine am_R.next ((hp 531).trans rfl) rfl ?_
  refine am_R.next ((hp 532).trans rfl) rfl ?_
  refine am_R.next ((hp 533).trans rfl) rfl ?_
  refine am_R.next ((hp 534).trans rfl) rfl ?_
  refine am_R.next ((hp 535).trans rfl) rfl ?_
  obtain ⟨c4, H⟩ := H
  refine r_sld ((hp 536).trans rfl) c4 ?_
  refine r_cv (bs := [.inl (scr.2 ((am_w (x3 + 1)).toNat))]) (st' := [.inl r3]) ((hp 537).trans rfl) (hw.o (i := 109) (by decide) rfl) rfl rfl (Nat.le_of_ble_eq_true rfl) (Nat.le_of_ble_eq_true rfl) (am_R.post H (fun v g5 hq => ?_))
  obtain ⟨r6, rfl, hw, H⟩ := hq
  change am_R _ _ _ _ _ [.inl r6, .inl r3] _ _
  refine r_ic ((hp 540).trans rfl) (fun c8 => ?_) (fun c8 => ?_)
  · have H := H.1 c8
    obtain ⟨y7, ey7⟩ : ∃ z : Int, z = am_w (x3 + 6) := ⟨_, rfl⟩
    have H := H y7 ey7
    refine am_R.next (lv' := [some (.inr (.inr (-1000))), some (.inr (.inr ((0 : Nat) : Int))), some (.inr (.inr ((109 : Nat) : Int))), some (.inl y7)]) (st' := []) (h' := g5) (pc' := 1361) ((hp 1358).trans rfl) (by rw [ey7]; rfl) ?_
    refine am_R.next ((hp 1361).trans rfl) rfl ?_
    exact H
  · have H := H.2 c8
    refine am_R.next ((hp 543).trans rfl) rfl ?_
    exact r_zret ((hp 544).trans rfl) (Or.inl rfl) H
theorem w_L_law_545 {scr : Nat × (Nat → Int)} {d : Nat} {h : am_H} {Q : Option am_V → am_H → Prop} {x3 : Int} (hs : am_sc scr) (hw : wf h) (H : (0 ≤ (am_w (x3 + 1)) ∧ (am_w (x3 + 1)) < (scr.1 : Int)) ∧ (am_R (am_prog scr) d f_S_undo 0 [some (.inr (.inr ((0 : Nat) : Int))), some (.inl (scr.2 ((am_w (x3 + 1)).toNat)))] [] h (fun v g2 => ∃ r3 : Int, v = some (.inl r3) ∧ wf g2 ∧ ((0 ≤ (am_w (x3 + 1)) ∧ (am_w (x3 + 1)) < (scr.1 : Int)) ∧ (am_R (am_prog scr) d f_M_undo 0 [some (.inr (.inr ((109 : Nat) : Int))), some (.inl (scr.2 ((am_w (x3 + 1)).toNat))), none] [] g2 (fun v g5 => ∃ r6 : Int, v = some (.inl r6) ∧ wf g5 ∧ ((r3 = r6 → (∀ y7 : Int, y7 = am_w (x3 + 6) → (am_R (am_prog scr) (d + 1) f_L_law 18 [some (.inr (.inr (-1000))), some (.inr (.inr ((0 : Nat) : Int))), some (.inr (.inr ((109 : Nat) : Int))), some (.inl y7)] [] g5 Q))) ∧ (¬ (r3 = r6) → (Q (some (.inl 0)) g5))))))))) : am_R (am_prog scr) (d + 1) f_L_law 545 [some (.inr (.inr (-1000))), some (.inr (.inr ((0 : Nat) : Int))), some (.inr (.inr ((109 : Nat) : Int))), some (.inl x3)] [] h Q := by
  have hp : ∀ k, (am_prog scr).1 f_L_law k = c_L_law scr k := fun _ => rfl
  refine am_R.next ((hp 545).trans rfl) rfl ?_
  refine am_R.next ((hp 546).trans rfl) rfl ?_
  refine am_R.next ((hp 547).trans rfl) rfl ?_
  refine am_R.next ((hp 548).trans rfl) rfl ?_
  refine am_R.next ((hp 549).trans rfl) rfl ?_
  obtain ⟨c1, H⟩ := H
  refine r_sld ((hp 550).trans rfl) c1 ?_
  refine r_cv (bs := [.inl (scr.2 ((am_w (x3 + 1)).toNat))]) (st' := []) ((hp 551).trans rfl) (hw.o (i := 0) (by decide) rfl) rfl rfl (Nat.le_of_ble_eq_true rfl) (Nat.le_of_ble_eq_true rfl) (am_R.post H (fun v g2 hq => ?_))
  obtain ⟨r3, rfl, hw, H⟩ := hq
  change am_R _ _ _ _ _ [.inl r3] _ _
  refine am_R.next ((hp 554).trans rfl) rfl ?_
  refine am_R.next ((hp 555).trans rfl) rfl ?_
  refine am_R.next ((hp 556).trans rfl) rfl ?_
  refine am_R.next ((hp 557).trans rfl) rfl ?_
  refine am_R.next ((hp 558).trans rfl) rfl ?_
  obtain ⟨c4, H⟩ := H
  refine r_sld ((hp 559).trans rfl) c4 ?_
  refine r_cv (bs := [.inl (scr.2 ((am_w (x3 + 1)).toNat))]) (st' := [.inl r3]) ((hp 560).trans rfl) (hw.o (i := 109) (by decide) rfl) rfl rfl (Nat.le_of_ble_eq_true rfl) (Nat.le_of_ble_eq_true rfl) (am_R.post H (fun v g5 hq => ?_))
  obtain ⟨r6, rfl, hw, H⟩ := hq
  change am_R _ _ _ _ _ [.inl r6, .inl r3] _ _
  refine r_ic ((hp 563).trans rfl) (fun c8 => ?_) (fun c8 => ?_)
  · have H := H.1 c8
    obtain ⟨y7, ey7⟩ : ∃ z : Int, z = am_w (x3 + 6) := ⟨_, rfl⟩
    have H := H y7 ey7
    refine am_R.next (lv' := [some (.inr (.inr (-1000))), some (.inr (.inr ((0 : Nat) : Int))), some (.inr (.inr ((109 : Nat) : Int))), some (.inl y7)]) (st' := []) (h' := g5) (pc' := 1361) ((hp 1358).trans rfl) (by rw [ey7]; rfl) ?_
    refine am_R.next ((hp 1361).trans rfl) rfl ?_
    exact H
  · have H := H.2 c8
    refine am_R.next ((hp 566).trans rfl) rfl ?_
    exact r_zret ((hp 567).trans rfl) (Or.inl rfl) H
theorem w_L_law_568 {scr : Nat × (Nat → Int)} {d : Nat} {h : am_H} {Q : Option am_V → am_H → Prop} {x3 : Int} (hs : am_sc scr) (hw : wf h) (H : (0 ≤ (am_w (x3 + 1)) ∧ (am_w (x3 + 1)) < (scr.1 : Int)) ∧ ((0 ≤ (am_w (x3 + 2)) ∧ (am_w (x3 + 2)) < (scr.1 : Int)) ∧ (am_R (am_prog scr) d f_S_judge 0 [some (.inr (.inr ((0 : Nat) : Int))), some (.inl (scr.2 ((am_w (x3 + 1)).toNat))), some (.inl (scr.2 ((am_w (x3 + 2)).toNat))), none, none, none] [] h (fun v g3 => ∃ r4 : Int, v = some (.inl r4) ∧ wf g3 ∧ ((0 ≤ (am_w (x3 + 1)) ∧ (am_w (x3 + 1)) < (scr.1 : Int)) ∧ ((0 ≤ (am_w (x3 + 2)) ∧ (am_w (x3 + 2)) < (scr.1 : Int)) ∧ (am_R (am_prog scr) d f_M_judge 0 [some (.inr (.inr ((109 : Nat) : Int))), some (.inl (scr.2 ((am_w (x3 + 1)).toNat))), some (.inl (scr.2 ((am_w (x3 + 2)).toNat))), none, none, none, none] [] g3 (fun v g7 => ∃ r8 : Int, v = some (.inl r8) ∧ wf g7 ∧ ((r4 = r8 → (∀ y9 : Int, y9 = am_w (x3 + 6) → (am_R (am_prog scr) (d + 1) f_L_law 18 [some (.inr (.inr (-1000))), some (.inr (.inr ((0 : Nat) : Int))), some (.inr (.inr ((109 : Nat) : Int))), some (.inl y9)] [] g7 Q))) ∧ (¬ (r4 = r8) → (Q (some (.inl 0)) g7))))))))))) : am_R (am_prog scr) (d + 1) f_L_law 568 [some (.inr (.inr (-1000))), some (.inr (.inr ((0 : Nat) : Int))), some (.inr (.inr ((109 : Nat) : Int))), some (.inl x3)] [] h Q := by
  have hp : ∀ k, (am_prog scr).1 f_L_law k = c_L_law scr k := fun _ => rfl
  refine am_R.next ((hp 568).trans rfl) rfl ?_
  refine am_R.next ((hp 569).trans rfl) rfl ?_
  refine am_R.next ((hp 570).trans rfl) rfl ?_
  refine am_R.next ((hp 571).trans rfl) rfl ?_
  refine am_R.next ((hp 572).trans rfl) rfl ?_
  obtain ⟨c1, H⟩ := H
  refine r_sld ((hp 573).trans rfl) c1 ?_
  refine am_R.next ((hp 574).trans rfl) rfl ?_
  refine am_R.next ((hp 575).trans rfl) rfl ?_
  refine am_R.next ((hp 576).trans rfl) rfl ?_
  refine am_R.next ((hp 577).trans rfl) rfl ?_
  obtain ⟨c2, H⟩ := H
  refine r_sld ((hp 578).trans rfl) c2 ?_
  refine r_cv (bs := [.inl (scr.2 ((am_w (x3 + 1)).toNat)), .inl (scr.2 ((am_w (x3 + 2)).toNat))]) (st' := []) ((hp 579).trans rfl) (hw.o (i := 0) (by decide) rfl) rfl rfl (Nat.le_of_ble_eq_true rfl) (Nat.le_of_ble_eq_true rfl) (am_R.post H (fun v g3 hq => ?_))
  obtain ⟨r4, rfl, hw, H⟩ := hq
  change am_R _ _ _ _ _ [.inl r4] _ _
  refine am_R.next ((hp 582).trans rfl) rfl ?_
  refine am_R.next ((hp 583).trans rfl) rfl ?_
  refine am_R.next ((hp 584).trans rfl) rfl ?_
  refine am_R.next ((hp 585).trans rfl) rfl ?_
  refine am_R.next ((hp 586).trans rfl) rfl ?_
  obtain ⟨c5, H⟩ := H
  refine r_sld ((hp 587).trans rfl) c5 ?_
  refine am_R.next ((hp 588).trans rfl) rfl ?_
  refine am_R.next ((hp 589).trans rfl) rfl ?_
  refine am_R.next ((hp 590).trans rfl) rfl ?_
  refine am_R.next ((hp 591).trans rfl) rfl ?_
  obtain ⟨c6, H⟩ := H
  refine r_sld ((hp 592).trans rfl) c6 ?_
  refine r_cv (bs := [.inl (scr.2 ((am_w (x3 + 1)).toNat)), .inl (scr.2 ((am_w (x3 + 2)).toNat))]) (st' := [.inl r4]) ((hp 593).trans rfl) (hw.o (i := 109) (by decide) rfl) rfl rfl (Nat.le_of_ble_eq_true rfl) (Nat.le_of_ble_eq_true rfl) (am_R.post H (fun v g7 hq => ?_))
  obtain ⟨r8, rfl, hw, H⟩ := hq
  change am_R _ _ _ _ _ [.inl r8, .inl r4] _ _
  refine r_ic ((hp 596).trans rfl) (fun c10 => ?_) (fun c10 => ?_)
  · have H := H.1 c10
    obtain ⟨y9, ey9⟩ : ∃ z : Int, z = am_w (x3 + 6) := ⟨_, rfl⟩
    have H := H y9 ey9
    refine am_R.next (lv' := [some (.inr (.inr (-1000))), some (.inr (.inr ((0 : Nat) : Int))), some (.inr (.inr ((109 : Nat) : Int))), some (.inl y9)]) (st' := []) (h' := g7) (pc' := 1361) ((hp 1358).trans rfl) (by rw [ey9]; rfl) ?_
    refine am_R.next ((hp 1361).trans rfl) rfl ?_
    exact H
  · have H := H.2 c10
    refine am_R.next ((hp 599).trans rfl) rfl ?_
    exact r_zret ((hp 600).trans rfl) (Or.inl rfl) H
theorem w_L_law_601 {scr : Nat × (Nat → Int)} {d : Nat} {h : am_H} {Q : Option am_V → am_H → Prop} {x3 : Int} (hs : am_sc scr) (hw : wf h) (H : (0 ≤ (am_w (x3 + 1)) ∧ (am_w (x3 + 1)) < (scr.1 : Int)) ∧ (am_R (am_prog scr) d f_S_perform 0 [some (.inr (.inr ((0 : Nat) : Int))), some (.inl (scr.2 ((am_w (x3 + 1)).toNat))), none, none] [] h (fun v g2 => ∃ r3 : Int, v = some (.inl r3) ∧ wf g2 ∧ ((0 ≤ (am_w (x3 + 1)) ∧ (am_w (x3 + 1)) < (scr.1 : Int)) ∧ (am_R (am_prog scr) d f_M_perform 0 [some (.inr (.inr ((109 : Nat) : Int))), some (.inl (scr.2 ((am_w (x3 + 1)).toNat))), none, none] [] g2 (fun v g5 => ∃ r6 : Int, v = some (.inl r6) ∧ wf g5 ∧ ((r3 = r6 → (∀ y7 : Int, y7 = am_w (x3 + 6) → (am_R (am_prog scr) (d + 1) f_L_law 18 [some (.inr (.inr (-1000))), some (.inr (.inr ((0 : Nat) : Int))), some (.inr (.inr ((109 : Nat) : Int))), some (.inl y7)] [] g5 Q))) ∧ (¬ (r3 = r6) → (Q (some (.inl 0)) g5))))))))) : am_R (am_prog scr) (d + 1) f_L_law 601 [some (.inr (.inr (-1000))), some (.inr (.inr ((0 : Nat) : Int))), some (.inr (.inr ((109 : Nat) : Int))), some (.inl x3)] [] h Q := by
  have hp : ∀ k, (am_prog scr).1 f_L_law k = c_L_law scr k := fun _ => rfl
  refine am_R.next ((hp 601).trans rfl) rfl ?_
  refine am_R.next ((hp 602).trans rfl) rfl ?_
  refine am_R.next ((hp 603).trans rfl) rfl ?_
  refine am_R.next ((hp 604).trans rfl) rfl ?_
  refine am_R.next ((hp 605).trans rfl) rfl ?_
  obtain ⟨c1, H⟩ := H
  refine r_sld ((hp 606).trans rfl) c1 ?_
  refine r_cv (bs := [.inl (scr.2 ((am_w (x3 + 1)).toNat))]) (st' := []) ((hp 607).trans rfl) (hw.o (i := 0) (by decide) rfl) rfl rfl (Nat.le_of_ble_eq_true rfl) (Nat.le_of_ble_eq_true rfl) (am_R.post H (fun v g2 hq => ?_))
  obtain ⟨r3, rfl, hw, H⟩ := hq
  change am_R _ _ _ _ _ [.inl r3] _ _
  refine am_R.next ((hp 610).trans rfl) rfl ?_
  refine am_R.next ((hp 611).trans rfl) rfl ?_
  refine am_R.next ((hp 612).trans rfl) rfl ?_
  refine am_R.next ((hp 613).trans rfl) rfl ?_
  refine am_R.next ((hp 614).trans rfl) rfl ?_
  obtain ⟨c4, H⟩ := H
  refine r_sld ((hp 615).trans rfl) c4 ?_
  refine r_cv (bs := [.inl (scr.2 ((am_w (x3 + 1)).toNat))]) (st' := [.inl r3]) ((hp 616).trans rfl) (hw.o (i := 109) (by decide) rfl) rfl rfl (Nat.le_of_ble_eq_true rfl) (Nat.le_of_ble_eq_true rfl) (am_R.post H (fun v g5 hq => ?_))
  obtain ⟨r6, rfl, hw, H⟩ := hq
  change am_R _ _ _ _ _ [.inl r6, .inl r3] _ _
  refine r_ic ((hp 619).trans rfl) (fun c8 => ?_) (fun c8 => ?_)
  · have H := H.1 c8
    obtain ⟨y7, ey7⟩ : ∃ z : Int, z = am_w (x3 + 6) := ⟨_, rfl⟩
    have H := H y7 ey7
    refine am_R.next (lv' := [some (.inr (.inr (-1000))), some (.inr (.inr ((0 : Nat) : Int))), some (.inr (.inr ((109 : Nat) : Int))), some (.inl y7)]) (st' := []) (h' := g5) (pc' := 1361) ((hp 1358).trans rfl) (by rw [ey7]; rfl) ?_
    refine am_R.next ((hp 1361).trans rfl) rfl ?_
    exact H
  · have H := H.2 c8
    refine am_R.next ((hp 622).trans rfl) rfl ?_
    exact r_zret ((hp 623).trans rfl) (Or.inl rfl) H
theorem w_L_law_624 {scr : Nat × (Nat → Int)} {d : Nat} {h : am_H} {Q : Option am_V → am_H → Prop} {x3 : Int} (hs : am_sc scr) (hw : wf h) (H : (0 ≤ (am_w (x3 + 1)) ∧ (am_w (x3 + 1)) < (scr.1 : Int)) ∧ ((0 ≤ (am_w (x3 + 2)) ∧ (am_w (x3 + 2)) < (scr.1 : Int)) ∧ (am_R (am_prog scr) d f_S_night 0 [some (.inr (.inr ((0 : Nat) : Int))), some (.inl (scr.2 ((am_w (x3 + 1)).toNat))), some (.inl (scr.2 ((am_w (x3 + 2)).toNat))), none, none, none] [] h (fun v g3 => ∃ r4 : Int, v = some (.inl r4) ∧ wf g3 ∧ ((0 ≤ (am_w (x3 + 1)) ∧ (am_w (x3 + 1)) < (scr.1 : Int)) ∧ ((0 ≤ (am_w (x3 + 2)) ∧ (am_w (x3 + 2)) < (scr.1 : Int)) ∧ (am_R (am_prog scr) d f_M_night 0 [some (.inr (.inr ((109 : Nat) : Int))), some (.inl (scr.2 ((am_w (x3 + 1)).toNat))), some (.inl (scr.2 ((am_w (x3 + 2)).toNat))), none, none, none] [] g3 (fun v g7 => ∃ r8 : Int, v = some (.inl r8) ∧ wf g7 ∧ ((r4 = r8 → (∀ y9 : Int, y9 = am_w (x3 + 6) → (am_R (am_prog scr) (d + 1) f_L_law 18 [some (.inr (.inr (-1000))), some (.inr (.inr ((0 : Nat) : Int))), some (.inr (.inr ((109 : Nat) : Int))), some (.inl y9)] [] g7 Q))) ∧ (¬ (r4 = r8) → (Q (some (.inl 0)) g7))))))))))) : am_R (am_prog scr) (d + 1) f_L_law 624 [some (.inr (.inr (-1000))), some (.inr (.inr ((0 : Nat) : Int))), some (.inr (.inr ((109 : Nat) : Int))), some (.inl x3)] [] h Q := by
  have hp : ∀ k, (am_prog scr).1 f_L_law k = c_L_law scr k := fun _ => rfl
  refine am_R.next ((hp 624).trans rfl) rfl ?_
  refine am_R.next ((hp 625).trans rfl) rfl ?_
  refine am_R.next ((hp 626).trans rfl) rfl ?_
  refine am_R.next ((hp 627).trans rfl) rfl ?_
  refine am_R.next ((hp 628).trans rfl) rfl ?_
  obtain ⟨c1, H⟩ := H
  refine r_sld ((hp 629).trans rfl) c1 ?_
  refine am_R.next ((hp 630).trans rfl) rfl ?_
  refine am_R.next ((hp 631).trans rfl) rfl ?_
  refine am_R.next ((hp 632).trans rfl) rfl ?_
  refine am_R.next ((hp 633).trans rfl) rfl ?_
  obtain ⟨c2, H⟩ := H
  refine r_sld ((hp 634).trans rfl) c2 ?_
  refine r_cv (bs := [.inl (scr.2 ((am_w (x3 + 1)).toNat)), .inl (scr.2 ((am_w (x3 + 2)).toNat))]) (st' := []) ((hp 635).trans rfl) (hw.o (i := 0) (by decide) rfl) rfl rfl (Nat.le_of_ble_eq_true rfl) (Nat.le_of_ble_eq_true rfl) (am_R.post H (fun v g3 hq => ?_))
  obtain ⟨r4, rfl, hw, H⟩ := hq
  change am_R _ _ _ _ _ [.inl r4] _ _
  refine am_R.next ((hp 638).trans rfl) rfl ?_
  refine am_R.next ((hp 639).trans rfl) rfl ?_
  refine am_R.next ((hp 640).trans rfl) rfl ?_
  refine am_R.next ((hp 641).trans rfl) rfl ?_
  refine am_R.next ((hp 642).trans rfl) rfl ?_
  obtain ⟨c5, H⟩ := H
  refine r_sld ((hp 643).trans rfl) c5 ?_
  refine am_R.next ((hp 644).trans rfl) rfl ?_
  refine am_R.next ((hp 645).trans rfl) rfl ?_
  refine am_R.next ((hp 646).trans rfl) rfl ?_
  refine am_R.next ((hp 647).trans rfl) rfl ?_
  obtain ⟨c6, H⟩ := H
  refine r_sld ((hp 648).trans rfl) c6 ?_
  refine r_cv (bs := [.inl (scr.2 ((am_w (x3 + 1)).toNat)), .inl (scr.2 ((am_w (x3 + 2)).toNat))]) (st' := [.inl r4]) ((hp 649).trans rfl) (hw.o (i := 109) (by decide) rfl) rfl rfl (Nat.le_of_ble_eq_true rfl) (Nat.le_of_ble_eq_true rfl) (am_R.post H (fun v g7 hq => ?_))
  obtain ⟨r8, rfl, hw, H⟩ := hq
  change am_R _ _ _ _ _ [.inl r8, .inl r4] _ _
  refine r_ic ((hp 652).trans rfl) (fun c10 => ?_) (fun c10 => ?_)
  · have H := H.1 c10
    obtain ⟨y9, ey9⟩ : ∃ z : Int, z = am_w (x3 + 6) := ⟨_, rfl⟩
    have H := H y9 ey9
    refine am_R.next (lv' := [some (.inr (.inr (-1000))), some (.inr (.inr ((0 : Nat) : Int))), some (.inr (.inr ((109 : Nat) : Int))), some (.inl y9)]) (st' := []) (h' := g7) (pc' := 1361) ((hp 1358).trans rfl) (by rw [ey9]; rfl) ?_
    refine am_R.next ((hp 1361).trans rfl) rfl ?_
    exact H
  · have H := H.2 c10
    refine am_R.next ((hp 655).trans rfl) rfl ?_
    exact r_zret ((hp 656).trans rfl) (Or.inl rfl) H
theorem w_L_law_657 {scr : Nat × (Nat → Int)} {d : Nat} {h : am_H} {Q : Option am_V → am_H → Prop} {x3 : Int} (hs : am_sc scr) (hw : wf h) (H : (0 ≤ (am_w (x3 + 1)) ∧ (am_w (x3 + 1)) < (scr.1 : Int)) ∧ (am_R (am_prog scr) d f_S_goes 0 [some (.inr (.inr ((0 : Nat) : Int))), some (.inl (scr.2 ((am_w (x3 + 1)).toNat))), none] [] h (fun v g2 => ∃ r3 : Int, v = some (.inl r3) ∧ wf g2 ∧ ((0 ≤ (am_w (x3 + 1)) ∧ (am_w (x3 + 1)) < (scr.1 : Int)) ∧ (am_R (am_prog scr) d f_M_goes 0 [some (.inr (.inr ((109 : Nat) : Int))), some (.inl (scr.2 ((am_w (x3 + 1)).toNat))), none] [] g2 (fun v g5 => ∃ r6 : Int, v = some (.inl r6) ∧ wf g5 ∧ ((r3 = r6 → (∀ y7 : Int, y7 = am_w (x3 + 6) → (am_R (am_prog scr) (d + 1) f_L_law 18 [some (.inr (.inr (-1000))), some (.inr (.inr ((0 : Nat) : Int))), some (.inr (.inr ((109 : Nat) : Int))), some (.inl y7)] [] g5 Q))) ∧ (¬ (r3 = r6) → (Q (some (.inl 0)) g5))))))))) : am_R (am_prog scr) (d + 1) f_L_law 657 [some (.inr (.inr (-1000))), some (.inr (.inr ((0 : Nat) : Int))), some (.inr (.inr ((109 : Nat) : Int))), some (.inl x3)] [] h Q := by
  have hp : ∀ k, (am_prog scr).1 f_L_law k = c_L_law scr k := fun _ => rfl
  refine am_R.next ((hp 657).trans rfl) rfl ?_
  refine am_R.next ((hp 658).trans rfl) rfl ?_
  refine am_R.next ((hp 659).trans rfl) rfl ?_
  refine am_R.next ((hp 660).trans rfl) rfl ?_
  refine am_R.next ((hp 661).trans rfl) rfl ?_
  obtain ⟨c1, H⟩ := H
  refine r_sld ((hp 662).trans rfl) c1 ?_
  refine r_cv (bs := [.inl (scr.2 ((am_w (x3 + 1)).toNat))]) (st' := []) ((hp 663).trans rfl) (hw.o (i := 0) (by decide) rfl) rfl rfl (Nat.le_of_ble_eq_true rfl) (Nat.le_of_ble_eq_true rfl) (am_R.post H (fun v g2 hq => ?_))
  obtain ⟨r3, rfl, hw, H⟩ := hq
  change am_R _ _ _ _ _ [.inl r3] _ _
  refine am_R.next ((hp 666).trans rfl) rfl ?_
  refine am_R.next ((hp 667).trans rfl) rfl ?_
  refine am_R.next ((hp 668).trans rfl) rfl ?_
  refine am_R.next ((hp 669).trans rfl) rfl ?_
  refine am_R.next ((hp 670).trans rfl) rfl ?_
  obtain ⟨c4, H⟩ := H
  refine r_sld ((hp 671).trans rfl) c4 ?_
  refine r_cv (bs := [.inl (scr.2 ((am_w (x3 + 1)).toNat))]) (st' := [.inl r3]) ((hp 672).trans rfl) (hw.o (i := 109) (by decide) rfl) rfl rfl (Nat.le_of_ble_eq_true rfl) (Nat.le_of_ble_eq_true rfl) (am_R.post H (fun v g5 hq => ?_))
  obtain ⟨r6, rfl, hw, H⟩ := hq
  change am_R _ _ _ _ _ [.inl r6, .inl r3] _ _
  refine r_ic ((hp 675).trans rfl) (fun c8 => ?_) (fun c8 => ?_)
  · have H := H.1 c8
    obtain ⟨y7, ey7⟩ : ∃ z : Int, z = am_w (x3 + 6) := ⟨_, rfl⟩
    have H := H y7 ey7
    refine am_R.next (lv' := [some (.inr (.inr (-1000))), some (.inr (.inr ((0 : Nat) : Int))), some (.inr (.inr ((109 : Nat) : Int))), some (.inl y7)]) (st' := []) (h' := g5) (pc' := 1361) ((hp 1358).trans rfl) (by rw [ey7]; rfl) ?_
    refine am_R.next ((hp 1361).trans rfl) rfl ?_
    exact H
  · have H := H.2 c8
    refine am_R.next ((hp 678).trans rfl) rfl ?_
    exact r_zret ((hp 679).trans rfl) (Or.inl rfl) H
theorem w_L_law_680 {scr : Nat × (Nat → Int)} {d : Nat} {h : am_H} {Q : Option am_V → am_H → Prop} {x3 : Int} (hs : am_sc scr) (hw : wf h) (H : (0 ≤ (am_w (x3 + 1)) ∧ (am_w (x3 + 1)) < (scr.1 : Int)) ∧ (am_R (am_prog scr) d f_S_lies 0 [some (.inr (.inr ((0 : Nat) : Int))), some (.inl (scr.2 ((am_w (x3 + 1)).toNat)))] [] h (fun v g2 => ∃ r3 : Int, v = some (.inl r3) ∧ wf g2 ∧ ((0 ≤ (am_w (x3 + 1)) ∧ (am_w (x3 + 1)) < (scr.1 : Int)) ∧ (am_R (am_prog scr) d f_M_lies 0 [some (.inr (.inr ((109 : Nat) : Int))), some (.inl (scr.2 ((am_w (x3 + 1)).toNat))), none] [] g2 (fun v g5 => ∃ r6 : Int, v = some (.inl r6) ∧ wf g5 ∧ ((r3 = r6 → (∀ y7 : Int, y7 = am_w (x3 + 6) → (am_R (am_prog scr) (d + 1) f_L_law 18 [some (.inr (.inr (-1000))), some (.inr (.inr ((0 : Nat) : Int))), some (.inr (.inr ((109 : Nat) : Int))), some (.inl y7)] [] g5 Q))) ∧ (¬ (r3 = r6) → (Q (some (.inl 0)) g5))))))))) : am_R (am_prog scr) (d + 1) f_L_law 680 [some (.inr (.inr (-1000))), some (.inr (.inr ((0 : Nat) : Int))), some (.inr (.inr ((109 : Nat) : Int))), some (.inl x3)] [] h Q := by
  have hp : ∀ k, (am_prog scr).1 f_L_law k = c_L_law scr k := fun _ => rfl
  refine am_R.next ((hp 680).trans rfl) rfl ?_
  refine am_R.next ((hp 681).trans rfl) rfl ?_
  refine am_R.next ((hp 682).trans rfl) rfl ?_
  refine am_R.next ((hp 683).trans rfl) rfl ?_
  refine am_R.next ((hp 684).trans rfl) rfl ?_
  obtain ⟨c1, H⟩ := H
  refine r_sld ((hp 685).trans rfl) c1 ?_
  refine r_cv (bs := [.inl (scr.2 ((am_w (x3 + 1)).toNat))]) (st' := []) ((hp 686).trans rfl) (hw.o (i := 0) (by decide) rfl) rfl rfl (Nat.le_of_ble_eq_true rfl) (Nat.le_of_ble_eq_true rfl) (am_R.post H (fun v g2 hq => ?_))
  obtain ⟨r3, rfl, hw, H⟩ := hq
  change am_R _ _ _ _ _ [.inl r3] _ _
  refine am_R.next ((hp 689).trans rfl) rfl ?_
  refine am_R.next ((hp 690).trans rfl) rfl ?_
  refine am_R.next ((hp 691).trans rfl) rfl ?_
  refine am_R.next ((hp 692).trans rfl) rfl ?_
  refine am_R.next ((hp 693).trans rfl) rfl ?_
  obtain ⟨c4, H⟩ := H
  refine r_sld ((hp 694).trans rfl) c4 ?_
  refine r_cv (bs := [.inl (scr.2 ((am_w (x3 + 1)).toNat))]) (st' := [.inl r3]) ((hp 695).trans rfl) (hw.o (i := 109) (by decide) rfl) rfl rfl (Nat.le_of_ble_eq_true rfl) (Nat.le_of_ble_eq_true rfl) (am_R.post H (fun v g5 hq => ?_))
  obtain ⟨r6, rfl, hw, H⟩ := hq
  change am_R _ _ _ _ _ [.inl r6, .inl r3] _ _
  refine r_ic ((hp 698).trans rfl) (fun c8 => ?_) (fun c8 => ?_)
  · have H := H.1 c8
    obtain ⟨y7, ey7⟩ : ∃ z : Int, z = am_w (x3 + 6) := ⟨_, rfl⟩
    have H := H y7 ey7
    refine am_R.next (lv' := [some (.inr (.inr (-1000))), some (.inr (.inr ((0 : Nat) : Int))), some (.inr (.inr ((109 : Nat) : Int))), some (.inl y7)]) (st' := []) (h' := g5) (pc' := 1361) ((hp 1358).trans rfl) (by rw [ey7]; rfl) ?_
    refine am_R.next ((hp 1361).trans rfl) rfl ?_
    exact H
  · have H := H.2 c8
    refine am_R.next ((hp 701).trans rfl) rfl ?_
    exact r_zret ((hp 702).trans rfl) (Or.inl rfl) H
theorem w_L_law_703 {scr : Nat × (Nat → Int)} {d : Nat} {h : am_H} {Q : Option am_V → am_H → Prop} {x3 : Int} (hs : am_sc scr) (hw : wf h) (H : (0 ≤ (am_w (x3 + 1)) ∧ (am_w (x3 + 1)) < (scr.1 : Int)) ∧ (am_R (am_prog scr) d f_S_round 0 [some (.inr (.inr ((0 : Nat) : Int))), some (.inl (scr.2 ((am_w (x3 + 1)).toNat)))] [] h (fun v g2 => ∃ r3 : Int, v = some (.inl r3) ∧ wf g2 ∧ ((0 ≤ (am_w (x3 + 1)) ∧ (am_w (x3 + 1)) < (scr.1 : Int)) ∧ (am_R (am_prog scr) d f_M_round 0 [some (.inr (.inr ((109 : Nat) : Int))), some (.inl (scr.2 ((am_w (x3 + 1)).toNat)))] [] g2 (fun v g5 => ∃ r6 : Int, v = some (.inl r6) ∧ wf g5 ∧ ((r3 = r6 → (∀ y7 : Int, y7 = am_w (x3 + 6) → (am_R (am_prog scr) (d + 1) f_L_law 18 [some (.inr (.inr (-1000))), some (.inr (.inr ((0 : Nat) : Int))), some (.inr (.inr ((109 : Nat) : Int))), some (.inl y7)] [] g5 Q))) ∧ (¬ (r3 = r6) → (Q (some (.inl 0)) g5))))))))) : am_R (am_prog scr) (d + 1) f_L_law 703 [some (.inr (.inr (-1000))), some (.inr (.inr ((0 : Nat) : Int))), some (.inr (.inr ((109 : Nat) : Int))), some (.inl x3)] [] h Q := by
  have hp : ∀ k, (am_prog scr).1 f_L_law k = c_L_law scr k := fun _ => rfl
  refine am_R.next ((hp 703).trans rfl) rfl ?_
  refine am_R.next ((hp 704).trans rfl) rfl ?_
  refine am_R.next ((hp 705).trans rfl) rfl ?_
  refine am_R.next ((hp 706).trans rfl) rfl ?_
  refine am_R.next ((hp 707).trans rfl) rfl ?_
  obtain ⟨c1, H⟩ := H
  refine r_sld ((hp 708).trans rfl) c1 ?_
  refine r_cv (bs := [.inl (scr.2 ((am_w (x3 + 1)).toNat))]) (st' := []) ((hp 709).trans rfl) (hw.o (i := 0) (by decide) rfl) rfl rfl (Nat.le_of_ble_eq_true rfl) (Nat.le_of_ble_eq_true rfl) (am_R.post H (fun v g2 hq => ?_))
  obtain ⟨r3, rfl, hw, H⟩ := hq
  change am_R _ _ _ _ _ [.inl r3] _ _
  refine am_R.next ((hp 712).trans rfl) rfl ?_
  refine am_R.next ((hp 713).trans rfl) rfl ?_
  refine am_R.next ((hp 714).trans rfl) rfl ?_
  refine am_R.next ((hp 715).trans rfl) rfl ?_
  refine am_R.next ((hp 716).trans rfl) rfl ?_
  obtain ⟨c4, H⟩ := H
  refine r_sld ((hp 717).trans rfl) c4 ?_
  refine r_cv (bs := [.inl (scr.2 ((am_w (x3 + 1)).toNat))]) (st' := [.inl r3]) ((hp 718).trans rfl) (hw.o (i := 109) (by decide) rfl) rfl rfl (Nat.le_of_ble_eq_true rfl) (Nat.le_of_ble_eq_true rfl) (am_R.post H (fun v g5 hq => ?_))
  obtain ⟨r6, rfl, hw, H⟩ := hq
  change am_R _ _ _ _ _ [.inl r6, .inl r3] _ _
  refine r_ic ((hp 721).trans rfl) (fun c8 => ?_) (fun c8 => ?_)
  · have H := H.1 c8
    obtain ⟨y7, ey7⟩ : ∃ z : Int, z = am_w (x3 + 6) := ⟨_, rfl⟩
    have H := H y7 ey7
    refine am_R.next (lv' := [some (.inr (.inr (-1000))), some (.inr (.inr ((0 : Nat) : Int))), some (.inr (.inr ((109 : Nat) : Int))), some (.inl y7)]) (st' := []) (h' := g5) (pc' := 1361) ((hp 1358).trans rfl) (by rw [ey7]; rfl) ?_
    refine am_R.next ((hp 1361).trans rfl) rfl ?_
    exact H
  · have H := H.2 c8
    refine am_R.next ((hp 724).trans rfl) rfl ?_
    exact r_zret ((hp 725).trans rfl) (Or.inl rfl) H
theorem w_L_law_726 {scr : Nat × (Nat → Int)} {d : Nat} {h : am_H} {Q : Option am_V → am_H → Prop} {x3 : Int} (hs : am_sc scr) (hw : wf h) (H : (0 ≤ (am_w (x3 + 1)) ∧ (am_w (x3 + 1)) < (scr.1 : Int)) ∧ (am_R (am_prog scr) d f_S_soonest 0 [some (.inr (.inr ((0 : Nat) : Int))), some (.inl (scr.2 ((am_w (x3 + 1)).toNat)))] [] h (fun v g2 => ∃ r3 : Int, v = some (.inl r3) ∧ wf g2 ∧ ((0 ≤ (am_w (x3 + 1)) ∧ (am_w (x3 + 1)) < (scr.1 : Int)) ∧ (am_R (am_prog scr) d f_M_soonest 0 [some (.inr (.inr ((109 : Nat) : Int))), some (.inl (scr.2 ((am_w (x3 + 1)).toNat)))] [] g2 (fun v g5 => ∃ r6 : Int, v = some (.inl r6) ∧ wf g5 ∧ ((r3 = r6 → (∀ y7 : Int, y7 = am_w (x3 + 6) → (am_R (am_prog scr) (d + 1) f_L_law 18 [some (.inr (.inr (-1000))), some (.inr (.inr ((0 : Nat) : Int))), some (.inr (.inr ((109 : Nat) : Int))), some (.inl y7)] [] g5 Q))) ∧ (¬ (r3 = r6) → (Q (some (.inl 0)) g5))))))))) : am_R (am_prog scr) (d + 1) f_L_law 726 [some (.inr (.inr (-1000))), some (.inr (.inr ((0 : Nat) : Int))), some (.inr (.inr ((109 : Nat) : Int))), some (.inl x3)] [] h Q := by
  have hp : ∀ k, (am_prog scr).1 f_L_law k = c_L_law scr k := fun _ => rfl
  refine am_R.next ((hp 726).trans rfl) rfl ?_
  refine am_R.next ((hp 727).trans rfl) rfl ?_
  refine am_R.next ((hp 728).trans rfl) rfl ?_
  refine am_R.next ((hp 729).trans rfl) rfl ?_
  refine am_R.next ((hp 730).trans rfl) rfl ?_
  obtain ⟨c1, H⟩ := H
  refine r_sld ((hp 731).trans rfl) c1 ?_
  refine r_cv (bs := [.inl (scr.2 ((am_w (x3 + 1)).toNat))]) (st' := []) ((hp 732).trans rfl) (hw.o (i := 0) (by decide) rfl) rfl rfl (Nat.le_of_ble_eq_true rfl) (Nat.le_of_ble_eq_true rfl) (am_R.post H (fun v g2 hq => ?_))
  obtain ⟨r3, rfl, hw, H⟩ := hq
  change am_R _ _ _ _ _ [.inl r3] _ _
  refine am_R.next ((hp 735).trans rfl) rfl ?_
  refine am_R.next ((hp 736).trans rfl) rfl ?_
  refine am_R.next ((hp 737).trans rfl) rfl ?_
  refine am_R.next ((hp 738).trans rfl) rfl ?_
  refine am_R.next ((hp 739).trans rfl) rfl ?_
  obtain ⟨c4, H⟩ := H
  refine r_sld ((hp 740).trans rfl) c4 ?_
  refine r_cv (bs := [.inl (scr.2 ((am_w (x3 + 1)).toNat))]) (st' := [.inl r3]) ((hp 741).trans rfl) (hw.o (i := 109) (by decide) rfl) rfl rfl (Nat.le_of_ble_eq_true rfl) (Nat.le_of_ble_eq_true rfl) (am_R.post H (fun v g5 hq => ?_))
  obtain ⟨r6, rfl, hw, H⟩ := hq
  change am_R _ _ _ _ _ [.inl r6, .inl r3] _ _
  refine r_ic ((hp 744).trans rfl) (fun c8 => ?_) (fun c8 => ?_)
  · have H := H.1 c8
    obtain ⟨y7, ey7⟩ : ∃ z : Int, z = am_w (x3 + 6) := ⟨_, rfl⟩
    have H := H y7 ey7
    refine am_R.next (lv' := [some (.inr (.inr (-1000))), some (.inr (.inr ((0 : Nat) : Int))), some (.inr (.inr ((109 : Nat) : Int))), some (.inl y7)]) (st' := []) (h' := g5) (pc' := 1361) ((hp 1358).trans rfl) (by rw [ey7]; rfl) ?_
    refine am_R.next ((hp 1361).trans rfl) rfl ?_
    exact H
  · have H := H.2 c8
    refine am_R.next ((hp 747).trans rfl) rfl ?_
    exact r_zret ((hp 748).trans rfl) (Or.inl rfl) H
theorem w_L_law_749 {scr : Nat × (Nat → Int)} {d : Nat} {h : am_H} {Q : Option am_V → am_H → Prop} {x3 : Int} (hs : am_sc scr) (hw : wf h) (H : (0 ≤ (am_w (x3 + 1)) ∧ (am_w (x3 + 1)) < (scr.1 : Int)) ∧ ((0 ≤ (am_w (x3 + 2)) ∧ (am_w (x3 + 2)) < (scr.1 : Int)) ∧ (am_R (am_prog scr) d f_S_way 0 [some (.inr (.inr ((0 : Nat) : Int))), some (.inl (scr.2 ((am_w (x3 + 1)).toNat))), some (.inl (scr.2 ((am_w (x3 + 2)).toNat)))] [] h (fun v g3 => ∃ r4 : Int, v = some (.inl r4) ∧ wf g3 ∧ ((0 ≤ (am_w (x3 + 1)) ∧ (am_w (x3 + 1)) < (scr.1 : Int)) ∧ ((0 ≤ (am_w (x3 + 2)) ∧ (am_w (x3 + 2)) < (scr.1 : Int)) ∧ (am_R (am_prog scr) d f_M_way 0 [some (.inr (.inr ((109 : Nat) : Int))), some (.inl (scr.2 ((am_w (x3 + 1)).toNat))), some (.inl (scr.2 ((am_w (x3 + 2)).toNat))), none, none, none] [] g3 (fun v g7 => ∃ r8 : Int, v = some (.inl r8) ∧ wf g7 ∧ ((r4 = r8 → (∀ y9 : Int, y9 = am_w (x3 + 6) → (am_R (am_prog scr) (d + 1) f_L_law 18 [some (.inr (.inr (-1000))), some (.inr (.inr ((0 : Nat) : Int))), some (.inr (.inr ((109 : Nat) : Int))), some (.inl y9)] [] g7 Q))) ∧ (¬ (r4 = r8) → (Q (some (.inl 0)) g7))))))))))) : am_R (am_prog scr) (d + 1) f_L_law 749 [some (.inr (.inr (-1000))), some (.inr (.inr ((0 : Nat) : Int))), some (.inr (.inr ((109 : Nat) : Int))), some (.inl x3)] [] h Q := by
  have hp : ∀ k, (am_prog scr).1 f_L_law k = c_L_law scr k := fun _ => rfl
  refine am_R.next ((hp 749).trans rfl) rfl ?_
  refine am_R.next ((hp 750).trans rfl) rfl ?_
  refine am_R.next ((hp 751).trans rfl) rfl ?_
  refine am_R.next ((hp 752).trans rfl) rfl ?_
  refine am_R.next ((hp 753).trans rfl) rfl ?_
  obtain ⟨c1, H⟩ := H
  refine r_sld ((hp 754).trans rfl) c1 ?_
  refine am_R.next ((hp 755).trans rfl) rfl ?_
  refine am_R.next ((hp 756).trans rfl) rfl ?_
  refine am_R.next ((hp 757).trans rfl) rfl ?_
  refine am_R.next ((hp 758).trans rfl) rfl ?_
  obtain ⟨c2, H⟩ := H
  refine r_sld ((hp 759).trans rfl) c2 ?_
  refine r_cv (bs := [.inl (scr.2 ((am_w (x3 + 1)).toNat)), .inl (scr.2 ((am_w (x3 + 2)).toNat))]) (st' := []) ((hp 760).trans rfl) (hw.o (i := 0) (by decide) rfl) rfl rfl (Nat.le_of_ble_eq_true rfl) (Nat.le_of_ble_eq_true rfl) (am_R.post H (fun v g3 hq => ?_))
  obtain ⟨r4, rfl, hw, H⟩ := hq
  change am_R _ _ _ _ _ [.inl r4] _ _
  refine am_R.next ((hp 763).trans rfl) rfl ?_
  refine am_R.next ((hp 764).trans rfl) rfl ?_
  refine am_R.next ((hp 765).trans rfl) rfl ?_
  refine am_R.next ((hp 766).trans rfl) rfl ?_
  refine am_R.next ((hp 767).trans rfl) rfl ?_
  obtain ⟨c5, H⟩ := H
  refine r_sld ((hp 768).trans rfl) c5 ?_
  refine am_R.next ((hp 769).trans rfl) rfl ?_
  refine am_R.next ((hp 770).trans rfl) rfl ?_
  refine am_R.next ((hp 771).trans rfl) rfl ?_
  refine am_R.next ((hp 772).trans rfl) rfl ?_
  obtain ⟨c6, H⟩ := H
  refine r_sld ((hp 773).trans rfl) c6 ?_
  refine r_cv (bs := [.inl (scr.2 ((am_w (x3 + 1)).toNat)), .inl (scr.2 ((am_w (x3 + 2)).toNat))]) (st' := [.inl r4]) ((hp 774).trans rfl) (hw.o (i := 109) (by decide) rfl) rfl rfl (Nat.le_of_ble_eq_true rfl) (Nat.le_of_ble_eq_true rfl) (am_R.post H (fun v g7 hq => ?_))
  obtain ⟨r8, rfl, hw, H⟩ := hq
  change am_R _ _ _ _ _ [.inl r8, .inl r4] _ _
  refine r_ic ((hp 777).trans rfl) (fun c10 => ?_) (fun c10 => ?_)
  · have H := H.1 c10
    obtain ⟨y9, ey9⟩ : ∃ z : Int, z = am_w (x3 + 6) := ⟨_, rfl⟩
    have H := H y9 ey9
    refine am_R.next (lv' := [some (.inr (.inr (-1000))), some (.inr (.inr ((0 : Nat) : Int))), some (.inr (.inr ((109 : Nat) : Int))), some (.inl y9)]) (st' := []) (h' := g7) (pc' := 1361) ((hp 1358).trans rfl) (by rw [ey9]; rfl) ?_
    refine am_R.next ((hp 1361).trans rfl) rfl ?_
    exact H
  · have H := H.2 c10
    refine am_R.next ((hp 780).trans rfl) rfl ?_
    exact r_zret ((hp 781).trans rfl) (Or.inl rfl) H
theorem w_L_law_782 {scr : Nat × (Nat → Int)} {d : Nat} {h : am_H} {Q : Option am_V → am_H → Prop} {x3 : Int} (hs : am_sc scr) (hw : wf h) (H : (0 ≤ (am_w (x3 + 1)) ∧ (am_w (x3 + 1)) < (scr.1 : Int)) ∧ ((0 ≤ (am_w (x3 + 2)) ∧ (am_w (x3 + 2)) < (scr.1 : Int)) ∧ (am_R (am_prog scr) d f_S_rows 0 [some (.inr (.inr ((0 : Nat) : Int))), some (.inl (scr.2 ((am_w (x3 + 1)).toNat))), some (.inl (scr.2 ((am_w (x3 + 2)).toNat)))] [] h (fun v g3 => ∃ r4 : Int, v = some (.inr (.inl r4)) ∧ wf g3 ∧ ((0 ≤ (am_w (x3 + 1)) ∧ (am_w (x3 + 1)) < (scr.1 : Int)) ∧ ((0 ≤ (am_w (x3 + 2)) ∧ (am_w (x3 + 2)) < (scr.1 : Int)) ∧ (am_R (am_prog scr) d f_M_rows 0 [some (.inr (.inr ((109 : Nat) : Int))), some (.inl (scr.2 ((am_w (x3 + 1)).toNat))), some (.inl (scr.2 ((am_w (x3 + 2)).toNat))), none, none, none, none] [] g3 (fun v g7 => ∃ r8 : Int, v = some (.inr (.inl r8)) ∧ wf g7 ∧ ((r4 = r8 → (∀ y9 : Int, y9 = am_w (x3 + 6) → (am_R (am_prog scr) (d + 1) f_L_law 18 [some (.inr (.inr (-1000))), some (.inr (.inr ((0 : Nat) : Int))), some (.inr (.inr ((109 : Nat) : Int))), some (.inl y9)] [] g7 Q))) ∧ (¬ (r4 = r8) → (Q (some (.inl 0)) g7))))))))))) : am_R (am_prog scr) (d + 1) f_L_law 782 [some (.inr (.inr (-1000))), some (.inr (.inr ((0 : Nat) : Int))), some (.inr (.inr ((109 : Nat) : Int))), some (.inl x3)] [] h Q := by
  have hp : ∀ k, (am_prog scr).1 f_L_law k = c_L_law scr k := fun _ => rfl
  refine am_R.next ((hp 782).trans rfl) rfl ?_
  refine am_R.next ((hp 783).trans rfl) rfl ?_
  refine am_R.next ((hp 784).trans rfl) rfl ?_
  refine am_R.next ((hp 785).trans rfl) rfl ?_
  refine am_R.next ((hp 786).trans rfl) rfl ?_
  obtain ⟨c1, H⟩ := H
  refine r_sld ((hp 787).trans rfl) c1 ?_
  refine am_R.next ((hp 788).trans rfl) rfl ?_
  refine am_R.next ((hp 789).trans rfl) rfl ?_
  refine am_R.next ((hp 790).trans rfl) rfl ?_
  refine am_R.next ((hp 791).trans rfl) rfl ?_
  obtain ⟨c2, H⟩ := H
  refine r_sld ((hp 792).trans rfl) c2 ?_
  refine r_cv (bs := [.inl (scr.2 ((am_w (x3 + 1)).toNat)), .inl (scr.2 ((am_w (x3 + 2)).toNat))]) (st' := []) ((hp 793).trans rfl) (hw.o (i := 0) (by decide) rfl) rfl rfl (Nat.le_of_ble_eq_true rfl) (Nat.le_of_ble_eq_true rfl) (am_R.post H (fun v g3 hq => ?_))
  obtain ⟨r4, rfl, hw, H⟩ := hq
  change am_R _ _ _ _ _ [.inr (.inl r4)] _ _
  refine am_R.next ((hp 796).trans rfl) rfl ?_
  refine am_R.next ((hp 797).trans rfl) rfl ?_
  refine am_R.next ((hp 798).trans rfl) rfl ?_
  refine am_R.next ((hp 799).trans rfl) rfl ?_
  refine am_R.next ((hp 800).trans rfl) rfl ?_
  obtain ⟨c5, H⟩ := H
  refine r_sld ((hp 801).trans rfl) c5 ?_
  refine am_R.next ((hp 802).trans rfl) rfl ?_
  refine am_R.next ((hp 803).trans rfl) rfl ?_
  refine am_R.next ((hp 804).trans rfl) rfl ?_
  refine am_R.next ((hp 805).trans rfl) rfl ?_
  obtain ⟨c6, H⟩ := H
  refine r_sld ((hp 806).trans rfl) c6 ?_
  refine r_cv (bs := [.inl (scr.2 ((am_w (x3 + 1)).toNat)), .inl (scr.2 ((am_w (x3 + 2)).toNat))]) (st' := [.inr (.inl r4)]) ((hp 807).trans rfl) (hw.o (i := 109) (by decide) rfl) rfl rfl (Nat.le_of_ble_eq_true rfl) (Nat.le_of_ble_eq_true rfl) (am_R.post H (fun v g7 hq => ?_))
  obtain ⟨r8, rfl, hw, H⟩ := hq
  change am_R _ _ _ _ _ [.inr (.inl r8), .inr (.inl r4)] _ _
  refine am_R.next ((hp 810).trans rfl) rfl ?_
  refine r_if ((hp 811).trans rfl) (fun c10 => ?_) (fun c10 => ?_)
  · have H := H.1 (lc_eqt c10)
    obtain ⟨y9, ey9⟩ : ∃ z : Int, z = am_w (x3 + 6) := ⟨_, rfl⟩
    have H := H y9 ey9
    refine am_R.next (lv' := [some (.inr (.inr (-1000))), some (.inr (.inr ((0 : Nat) : Int))), some (.inr (.inr ((109 : Nat) : Int))), some (.inl y9)]) (st' := []) (h' := g7) (pc' := 1361) ((hp 1358).trans rfl) (by rw [ey9]; rfl) ?_
    refine am_R.next ((hp 1361).trans rfl) rfl ?_
    exact H
  · have H := H.2 (lc_eqf c10)
    refine am_R.next ((hp 814).trans rfl) rfl ?_
    exact r_zret ((hp 815).trans rfl) (Or.inl rfl) H
theorem w_L_law_816 {scr : Nat × (Nat → Int)} {d : Nat} {h : am_H} {Q : Option am_V → am_H → Prop} {x3 : Int} (hs : am_sc scr) (hw : wf h) (H : am_R (am_prog scr) d f_S_keeps 0 [some (.inr (.inr ((0 : Nat) : Int)))] [] h (fun v g1 => ∃ r2 : Int, v = some (.inl r2) ∧ wf g1 ∧ (am_R (am_prog scr) d f_M_keeps 0 [some (.inr (.inr ((109 : Nat) : Int)))] [] g1 (fun v g3 => ∃ r4 : Int, v = some (.inl r4) ∧ wf g3 ∧ ((r2 = r4 → (∀ y5 : Int, y5 = am_w (x3 + 6) → (am_R (am_prog scr) (d + 1) f_L_law 18 [some (.inr (.inr (-1000))), some (.inr (.inr ((0 : Nat) : Int))), some (.inr (.inr ((109 : Nat) : Int))), some (.inl y5)] [] g3 Q))) ∧ (¬ (r2 = r4) → (Q (some (.inl 0)) g3))))))) : am_R (am_prog scr) (d + 1) f_L_law 816 [some (.inr (.inr (-1000))), some (.inr (.inr ((0 : Nat) : Int))), some (.inr (.inr ((109 : Nat) : Int))), some (.inl x3)] [] h Q := by
  have hp : ∀ k, (am_prog scr).1 f_L_law k = c_L_law scr k := fun _ => rfl
  refine am_R.next ((hp 816).trans rfl) rfl ?_
  refine r_cv (bs := []) (st' := []) ((hp 817).trans rfl) (hw.o (i := 0) (by decide) rfl) rfl rfl (Nat.le_of_ble_eq_true rfl) (Nat.le_of_ble_eq_true rfl) (am_R.post H (fun v g1 hq => ?_))
  obtain ⟨r2, rfl, hw, H⟩ := hq
  change am_R _ _ _ _ _ [.inl r2] _ _
  refine am_R.next ((hp 820).trans rfl) rfl ?_
  refine r_cv (bs := []) (st' := [.inl r2]) ((hp 821).trans rfl) (hw.o (i := 109) (by decide) rfl) rfl rfl (Nat.le_of_ble_eq_true rfl) (Nat.le_of_ble_eq_true rfl) (am_R.post H (fun v g3 hq => ?_))
  obtain ⟨r4, rfl, hw, H⟩ := hq
  change am_R _ _ _ _ _ [.inl r4, .inl r2] _ _
  refine r_ic ((hp 824).trans rfl) (fun c6 => ?_) (fun c6 => ?_)
  · have H := H.1 c6
    obtain ⟨y5, ey5⟩ : ∃ z : Int, z = am_w (x3 + 6) := ⟨_, rfl⟩
    have H := H y5 ey5
    refine am_R.next (lv' := [some (.inr (.inr (-1000))), some (.inr (.inr ((0 : Nat) : Int))), some (.inr (.inr ((109 : Nat) : Int))), some (.inl y5)]) (st' := []) (h' := g3) (pc' := 1361) ((hp 1358).trans rfl) (by rw [ey5]; rfl) ?_
    refine am_R.next ((hp 1361).trans rfl) rfl ?_
    exact H
  · have H := H.2 c6
    refine am_R.next ((hp 827).trans rfl) rfl ?_
    exact r_zret ((hp 828).trans rfl) (Or.inl rfl) H
theorem w_L_law_829 {scr : Nat × (Nat → Int)} {d : Nat} {h : am_H} {Q : Option am_V → am_H → Prop} {x3 : Int} (hs : am_sc scr) (hw : wf h) (H : (0 ≤ (am_w (x3 + 1)) ∧ (am_w (x3 + 1)) < (scr.1 : Int)) ∧ (am_R (am_prog scr) d f_S_keeping 0 [some (.inr (.inr ((0 : Nat) : Int))), some (.inl (scr.2 ((am_w (x3 + 1)).toNat)))] [] h (fun v g2 => ∃ r3 : Int, v = some (.inl r3) ∧ wf g2 ∧ ((0 ≤ (am_w (x3 + 1)) ∧ (am_w (x3 + 1)) < (scr.1 : Int)) ∧ (am_R (am_prog scr) d f_M_keeping 0 [some (.inr (.inr ((109 : Nat) : Int))), some (.inl (scr.2 ((am_w (x3 + 1)).toNat))), none, none, none] [] g2 (fun v g5 => ∃ r6 : Int, v = some (.inl r6) ∧ wf g5 ∧ ((r3 = r6 → (∀ y7 : Int, y7 = am_w (x3 + 6) → (am_R (am_prog scr) (d + 1) f_L_law 18 [some (.inr (.inr (-1000))), some (.inr (.inr ((0 : Nat) : Int))), some (.inr (.inr ((109 : Nat) : Int))), some (.inl y7)] [] g5 Q))) ∧ (¬ (r3 = r6) → (Q (some (.inl 0)) g5))))))))) : am_R (am_prog scr) (d + 1) f_L_law 829 [some (.inr (.inr (-1000))), some (.inr (.inr ((0 : Nat) : Int))), some (.inr (.inr ((109 : Nat) : Int))), some (.inl x3)] [] h Q := by
  have hp : ∀ k, (am_prog scr).1 f_L_law k = c_L_law scr k := fun _ => rfl
  refine am_R.next ((hp 829).trans rfl) rfl ?_
  refine am_R.next ((hp 830).trans rfl) rfl ?_
  refine am_R.next ((hp 831).trans rfl) rfl ?_
  refine am_R.next ((hp 832).trans rfl) rfl ?_
  refine am_R.next ((hp 833).trans rfl) rfl ?_
  obtain ⟨c1, H⟩ := H
  refine r_sld ((hp 834).trans rfl) c1 ?_
  refine r_cv (bs := [.inl (scr.2 ((am_w (x3 + 1)).toNat))]) (st' := []) ((hp 835).trans rfl) (hw.o (i := 0) (by decide) rfl) rfl rfl (Nat.le_of_ble_eq_true rfl) (Nat.le_of_ble_eq_true rfl) (am_R.post H (fun v g2 hq => ?_))
  obtain ⟨r3, rfl, hw, H⟩ := hq
  change am_R _ _ _ _ _ [.inl r3] _ _
  refine am_R.next ((hp 838).trans rfl) rfl ?_
  refine am_R.next ((hp 839).trans rfl) rfl ?_
  refine am_R.next ((hp 840).trans rfl) rfl ?_
  refine am_R.next ((hp 841).trans rfl) rfl ?_
  refine am_R.next ((hp 842).trans rfl) rfl ?_
  obtain ⟨c4, H⟩ := H
  refine r_sld ((hp 843).trans rfl) c4 ?_
  refine r_cv (bs := [.inl (scr.2 ((am_w (x3 + 1)).toNat))]) (st' := [.inl r3]) ((hp 844).trans rfl) (hw.o (i := 109) (by decide) rfl) rfl rfl (Nat.le_of_ble_eq_true rfl) (Nat.le_of_ble_eq_true rfl) (am_R.post H (fun v g5 hq => ?_))
  obtain ⟨r6, rfl, hw, H⟩ := hq
  change am_R _ _ _ _ _ [.inl r6, .inl r3] _ _
  refine r_ic ((hp 847).trans rfl) (fun c8 => ?_) (fun c8 => ?_)
  · have H := H.1 c8
    obtain ⟨y7, ey7⟩ : ∃ z : Int, z = am_w (x3 + 6) := ⟨_, rfl⟩
    have H := H y7 ey7
    refine am_R.next (lv' := [some (.inr (.inr (-1000))), some (.inr (.inr ((0 : Nat) : Int))), some (.inr (.inr ((109 : Nat) : Int))), some (.inl y7)]) (st' := []) (h' := g5) (pc' := 1361) ((hp 1358).trans rfl) (by rw [ey7]; rfl) ?_
    refine am_R.next ((hp 1361).trans rfl) rfl ?_
    exact H
  · have H := H.2 c8
    refine am_R.next ((hp 850).trans rfl) rfl ?_
    exact r_zret ((hp 851).trans rfl) (Or.inl rfl) H
theorem w_L_law_852 {scr : Nat × (Nat → Int)} {d : Nat} {h : am_H} {Q : Option am_V → am_H → Prop} {x3 : Int} (hs : am_sc scr) (hw : wf h) (H : am_R (am_prog scr) d f_S_heardOf 0 [some (.inr (.inr ((0 : Nat) : Int)))] [] h (fun v g1 => ∃ r2 : Int, v = some (.inl r2) ∧ wf g1 ∧ (am_R (am_prog scr) d f_M_heardOf 0 [some (.inr (.inr ((109 : Nat) : Int))), none, none, none, none] [] g1 (fun v g3 => ∃ r4 : Int, v = some (.inl r4) ∧ wf g3 ∧ ((r2 = r4 → (∀ y5 : Int, y5 = am_w (x3 + 6) → (am_R (am_prog scr) (d + 1) f_L_law 18 [some (.inr (.inr (-1000))), some (.inr (.inr ((0 : Nat) : Int))), some (.inr (.inr ((109 : Nat) : Int))), some (.inl y5)] [] g3 Q))) ∧ (¬ (r2 = r4) → (Q (some (.inl 0)) g3))))))) : am_R (am_prog scr) (d + 1) f_L_law 852 [some (.inr (.inr (-1000))), some (.inr (.inr ((0 : Nat) : Int))), some (.inr (.inr ((109 : Nat) : Int))), some (.inl x3)] [] h Q := by
  have hp : ∀ k, (am_prog scr).1 f_L_law k = c_L_law scr k := fun _ => rfl
  refine am_R.next ((hp 852).trans rfl) rfl ?_
  refine r_cv (bs := []) (st' := []) ((hp 853).trans rfl) (hw.o (i := 0) (by decide) rfl) rfl rfl (Nat.le_of_ble_eq_true rfl) (Nat.le_of_ble_eq_true rfl) (am_R.post H (fun v g1 hq => ?_))
  obtain ⟨r2, rfl, hw, H⟩ := hq
  change am_R _ _ _ _ _ [.inl r2] _ _
  refine am_R.next ((hp 856).trans rfl) rfl ?_
  refine r_cv (bs := []) (st' := [.inl r2]) ((hp 857).trans rfl) (hw.o (i := 109) (by decide) rfl) rfl rfl (Nat.le_of_ble_eq_true rfl) (Nat.le_of_ble_eq_true rfl) (am_R.post H (fun v g3 hq => ?_))
  obtain ⟨r4, rfl, hw, H⟩ := hq
  change am_R _ _ _ _ _ [.inl r4, .inl r2] _ _
  refine r_ic ((hp 860).trans rfl) (fun c6 => ?_) (fun c6 => ?_)
  · have H := H.1 c6
    obtain ⟨y5, ey5⟩ : ∃ z : Int, z = am_w (x3 + 6) := ⟨_, rfl⟩
    have H := H y5 ey5
    refine am_R.next (lv' := [some (.inr (.inr (-1000))), some (.inr (.inr ((0 : Nat) : Int))), some (.inr (.inr ((109 : Nat) : Int))), some (.inl y5)]) (st' := []) (h' := g3) (pc' := 1361) ((hp 1358).trans rfl) (by rw [ey5]; rfl) ?_
    refine am_R.next ((hp 1361).trans rfl) rfl ?_
    exact H
  · have H := H.2 c6
    refine am_R.next ((hp 863).trans rfl) rfl ?_
    exact r_zret ((hp 864).trans rfl) (Or.inl rfl) H
theorem w_L_law_865 {scr : Nat × (Nat → Int)} {d : Nat} {h : am_H} {Q : Option am_V → am_H → Prop} {x3 : Int} (hs : am_sc scr) (hw : wf h) (H : (0 ≤ (am_w (x3 + 1)) ∧ (am_w (x3 + 1)) < (scr.1 : Int)) ∧ (am_R (am_prog scr) d f_S_placing 0 [some (.inr (.inr ((0 : Nat) : Int))), some (.inl (scr.2 ((am_w (x3 + 1)).toNat)))] [] h (fun v g2 => ∃ r3 : Int, v = some (.inl r3) ∧ wf g2 ∧ ((0 ≤ (am_w (x3 + 1)) ∧ (am_w (x3 + 1)) < (scr.1 : Int)) ∧ (am_R (am_prog scr) d f_M_placing 0 [some (.inr (.inr ((109 : Nat) : Int))), some (.inl (scr.2 ((am_w (x3 + 1)).toNat))), none] [] g2 (fun v g5 => ∃ r6 : Int, v = some (.inl r6) ∧ wf g5 ∧ ((r3 = r6 → (∀ y7 : Int, y7 = am_w (x3 + 6) → (am_R (am_prog scr) (d + 1) f_L_law 18 [some (.inr (.inr (-1000))), some (.inr (.inr ((0 : Nat) : Int))), some (.inr (.inr ((109 : Nat) : Int))), some (.inl y7)] [] g5 Q))) ∧ (¬ (r3 = r6) → (Q (some (.inl 0)) g5))))))))) : am_R (am_prog scr) (d + 1) f_L_law 865 [some (.inr (.inr (-1000))), some (.inr (.inr ((0 : Nat) : Int))), some (.inr (.inr ((109 : Nat) : Int))), some (.inl x3)] [] h Q := by
  have hp : ∀ k, (am_prog scr).1 f_L_law k = c_L_law scr k := fun _ => rfl
  refine am_R.next ((hp 865).trans rfl) rfl ?_
  refine am_R.next ((hp 866).trans rfl) rfl ?_
  refine am_R.next ((hp 867).trans rfl) rfl ?_
  refine am_R.next ((hp 868).trans rfl) rfl ?_
  refine am_R.next ((hp 869).trans rfl) rfl ?_
  obtain ⟨c1, H⟩ := H
  refine r_sld ((hp 870).trans rfl) c1 ?_
  refine r_cv (bs := [.inl (scr.2 ((am_w (x3 + 1)).toNat))]) (st' := []) ((hp 871).trans rfl) (hw.o (i := 0) (by decide) rfl) rfl rfl (Nat.le_of_ble_eq_true rfl) (Nat.le_of_ble_eq_true rfl) (am_R.post H (fun v g2 hq => ?_))
  obtain ⟨r3, rfl, hw, H⟩ := hq
  change am_R _ _ _ _ _ [.inl r3] _ _
  refine am_R.next ((hp 874).trans rfl) rfl ?_
  refine am_R.next ((hp 875).trans rfl) rfl ?_
  refine am_R.next ((hp 876).trans rfl) rfl ?_
  refine am_R.next ((hp 877).trans rfl) rfl ?_
  refine am_R.next ((hp 878).trans rfl) rfl ?_
  obtain ⟨c4, H⟩ := H
  refine r_sld ((hp 879).trans rfl) c4 ?_
  refine r_cv (bs := [.inl (scr.2 ((am_w (x3 + 1)).toNat))]) (st' := [.inl r3]) ((hp 880).trans rfl) (hw.o (i := 109) (by decide) rfl) rfl rfl (Nat.le_of_ble_eq_true rfl) (Nat.le_of_ble_eq_true rfl) (am_R.post H (fun v g5 hq => ?_))
  obtain ⟨r6, rfl, hw, H⟩ := hq
  change am_R _ _ _ _ _ [.inl r6, .inl r3] _ _
  refine r_ic ((hp 883).trans rfl) (fun c8 => ?_) (fun c8 => ?_)
  · have H := H.1 c8
    obtain ⟨y7, ey7⟩ : ∃ z : Int, z = am_w (x3 + 6) := ⟨_, rfl⟩
    have H := H y7 ey7
    refine am_R.next (lv' := [some (.inr (.inr (-1000))), some (.inr (.inr ((0 : Nat) : Int))), some (.inr (.inr ((109 : Nat) : Int))), some (.inl y7)]) (st' := []) (h' := g5) (pc' := 1361) ((hp 1358).trans rfl) (by rw [ey7]; rfl) ?_
    refine am_R.next ((hp 1361).trans rfl) rfl ?_
    exact H
  · have H := H.2 c8
    refine am_R.next ((hp 886).trans rfl) rfl ?_
    exact r_zret ((hp 887).trans rfl) (Or.inl rfl) H
theorem w_L_law_888 {scr : Nat × (Nat → Int)} {d : Nat} {h : am_H} {Q : Option am_V → am_H → Prop} {x3 : Int} (hs : am_sc scr) (hw : wf h) (H : (0 ≤ (am_w (x3 + 1)) ∧ (am_w (x3 + 1)) < (scr.1 : Int)) ∧ (am_R (am_prog scr) d f_S_fills 0 [some (.inr (.inr ((0 : Nat) : Int))), some (.inl (scr.2 ((am_w (x3 + 1)).toNat))), none, none] [] h (fun v g2 => ∃ r3 : Int, v = some (.inl r3) ∧ wf g2 ∧ ((0 ≤ (am_w (x3 + 1)) ∧ (am_w (x3 + 1)) < (scr.1 : Int)) ∧ (am_R (am_prog scr) d f_M_fills 0 [some (.inr (.inr ((109 : Nat) : Int))), some (.inl (scr.2 ((am_w (x3 + 1)).toNat))), none, none, none] [] g2 (fun v g5 => ∃ r6 : Int, v = some (.inl r6) ∧ wf g5 ∧ ((r3 = r6 → (∀ y7 : Int, y7 = am_w (x3 + 6) → (am_R (am_prog scr) (d + 1) f_L_law 18 [some (.inr (.inr (-1000))), some (.inr (.inr ((0 : Nat) : Int))), some (.inr (.inr ((109 : Nat) : Int))), some (.inl y7)] [] g5 Q))) ∧ (¬ (r3 = r6) → (Q (some (.inl 0)) g5))))))))) : am_R (am_prog scr) (d + 1) f_L_law 888 [some (.inr (.inr (-1000))), some (.inr (.inr ((0 : Nat) : Int))), some (.inr (.inr ((109 : Nat) : Int))), some (.inl x3)] [] h Q := by
  have hp : ∀ k, (am_prog scr).1 f_L_law k = c_L_law scr k := fun _ => rfl
  refine am_R.next ((hp 888).trans rfl) rfl ?_
  refine am_R.next ((hp 889).trans rfl) rfl ?_
  refine am_R.next ((hp 890).trans rfl) rfl ?_
  refine am_R.next ((hp 891).trans rfl) rfl ?_
  refine am_R.next ((hp 892).trans rfl) rfl ?_
  obtain ⟨c1, H⟩ := H
  refine r_sld ((hp 893).trans rfl) c1 ?_
  refine r_cv (bs := [.inl (scr.2 ((am_w (x3 + 1)).toNat))]) (st' := []) ((hp 894).trans rfl) (hw.o (i := 0) (by decide) rfl) rfl rfl (Nat.le_of_ble_eq_true rfl) (Nat.le_of_ble_eq_true rfl) (am_R.post H (fun v g2 hq => ?_))
  obtain ⟨r3, rfl, hw, H⟩ := hq
  change am_R _ _ _ _ _ [.inl r3] _ _
  refine am_R.next ((hp 897).trans rfl) rfl ?_
  refine am_R.next ((hp 898).trans rfl) rfl ?_
  refine am_R.next ((hp 899).trans rfl) rfl ?_
  refine am_R.next ((hp 900).trans rfl) rfl ?_
  refine am_R.next ((hp 901).trans rfl) rfl ?_
  obtain ⟨c4, H⟩ := H
  refine r_sld ((hp 902).trans rfl) c4 ?_
  refine r_cv (bs := [.inl (scr.2 ((am_w (x3 + 1)).toNat))]) (st' := [.inl r3]) ((hp 903).trans rfl) (hw.o (i := 109) (by decide) rfl) rfl rfl (Nat.le_of_ble_eq_true rfl) (Nat.le_of_ble_eq_true rfl) (am_R.post H (fun v g5 hq => ?_))
  obtain ⟨r6, rfl, hw, H⟩ := hq
  change am_R _ _ _ _ _ [.inl r6, .inl r3] _ _
  refine r_ic ((hp 906).trans rfl) (fun c8 => ?_) (fun c8 => ?_)
  · have H := H.1 c8
    obtain ⟨y7, ey7⟩ : ∃ z : Int, z = am_w (x3 + 6) := ⟨_, rfl⟩
    have H := H y7 ey7
    refine am_R.next (lv' := [some (.inr (.inr (-1000))), some (.inr (.inr ((0 : Nat) : Int))), some (.inr (.inr ((109 : Nat) : Int))), some (.inl y7)]) (st' := []) (h' := g5) (pc' := 1361) ((hp 1358).trans rfl) (by rw [ey7]; rfl) ?_
    refine am_R.next ((hp 1361).trans rfl) rfl ?_
    exact H
  · have H := H.2 c8
    refine am_R.next ((hp 909).trans rfl) rfl ?_
    exact r_zret ((hp 910).trans rfl) (Or.inl rfl) H
theorem w_L_law_911 {scr : Nat × (Nat → Int)} {d : Nat} {h : am_H} {Q : Option am_V → am_H → Prop} {x3 : Int} (hs : am_sc scr) (hw : wf h) (H : (0 ≤ (am_w (x3 + 1)) ∧ (am_w (x3 + 1)) < (scr.1 : Int)) ∧ (am_R (am_prog scr) d f_S_heard 0 [some (.inr (.inr ((0 : Nat) : Int))), some (.inl (scr.2 ((am_w (x3 + 1)).toNat))), none] [] h (fun v g2 => ∃ r3 : Int, v = some (.inr (.inl r3)) ∧ wf g2 ∧ ((0 ≤ (am_w (x3 + 1)) ∧ (am_w (x3 + 1)) < (scr.1 : Int)) ∧ (am_R (am_prog scr) d f_M_heard 0 [some (.inr (.inr ((109 : Nat) : Int))), some (.inl (scr.2 ((am_w (x3 + 1)).toNat))), none] [] g2 (fun v g5 => ∃ r6 : Int, v = some (.inr (.inl r6)) ∧ wf g5 ∧ ((r3 = r6 → (∀ y7 : Int, y7 = am_w (x3 + 6) → (am_R (am_prog scr) (d + 1) f_L_law 18 [some (.inr (.inr (-1000))), some (.inr (.inr ((0 : Nat) : Int))), some (.inr (.inr ((109 : Nat) : Int))), some (.inl y7)] [] g5 Q))) ∧ (¬ (r3 = r6) → (Q (some (.inl 0)) g5))))))))) : am_R (am_prog scr) (d + 1) f_L_law 911 [some (.inr (.inr (-1000))), some (.inr (.inr ((0 : Nat) : Int))), some (.inr (.inr ((109 : Nat) : Int))), some (.inl x3)] [] h Q := by
  have hp : ∀ k, (am_prog scr).1 f_L_law k = c_L_law scr k := fun _ => rfl
  refine am_R.next ((hp 911).trans rfl) rfl ?_
  refine am_R.next ((hp 912).trans rfl) rfl ?_
  refine am_R.next ((hp 913).trans rfl) rfl ?_
  refine am_R.next ((hp 914).trans rfl) rfl ?_
  refine am_R.next ((hp 915).trans rfl) rfl ?_
  obtain ⟨c1, H⟩ := H
  refine r_sld ((hp 916).trans rfl) c1 ?_
  refine r_cv (bs := [.inl (scr.2 ((am_w (x3 + 1)).toNat))]) (st' := []) ((hp 917).trans rfl) (hw.o (i := 0) (by decide) rfl) rfl rfl (Nat.le_of_ble_eq_true rfl) (Nat.le_of_ble_eq_true rfl) (am_R.post H (fun v g2 hq => ?_))
  obtain ⟨r3, rfl, hw, H⟩ := hq
  change am_R _ _ _ _ _ [.inr (.inl r3)] _ _
  refine am_R.next ((hp 920).trans rfl) rfl ?_
  refine am_R.next ((hp 921).trans rfl) rfl ?_
  refine am_R.next ((hp 922).trans rfl) rfl ?_
  refine am_R.next ((hp 923).trans rfl) rfl ?_
  refine am_R.next ((hp 924).trans rfl) rfl ?_
  obtain ⟨c4, H⟩ := H
  refine r_sld ((hp 925).trans rfl) c4 ?_
  refine r_cv (bs := [.inl (scr.2 ((am_w (x3 + 1)).toNat))]) (st' := [.inr (.inl r3)]) ((hp 926).trans rfl) (hw.o (i := 109) (by decide) rfl) rfl rfl (Nat.le_of_ble_eq_true rfl) (Nat.le_of_ble_eq_true rfl) (am_R.post H (fun v g5 hq => ?_))
  obtain ⟨r6, rfl, hw, H⟩ := hq
  change am_R _ _ _ _ _ [.inr (.inl r6), .inr (.inl r3)] _ _
  refine am_R.next ((hp 929).trans rfl) rfl ?_
  refine r_if ((hp 930).trans rfl) (fun c8 => ?_) (fun c8 => ?_)
  · have H := H.1 (lc_eqt c8)
    obtain ⟨y7, ey7⟩ : ∃ z : Int, z = am_w (x3 + 6) := ⟨_, rfl⟩
    have H := H y7 ey7
    refine am_R.next (lv' := [some (.inr (.inr (-1000))), some (.inr (.inr ((0 : Nat) : Int))), some (.inr (.inr ((109 : Nat) : Int))), some (.inl y7)]) (st' := []) (h' := g5) (pc' := 1361) ((hp 1358).trans rfl) (by rw [ey7]; rfl) ?_
    refine am_R.next ((hp 1361).trans rfl) rfl ?_
    exact H
  · have H := H.2 (lc_eqf c8)
    refine am_R.next ((hp 933).trans rfl) rfl ?_
    exact r_zret ((hp 934).trans rfl) (Or.inl rfl) H
theorem w_L_law_935 {scr : Nat × (Nat → Int)} {d : Nat} {h : am_H} {Q : Option am_V → am_H → Prop} {x3 : Int} (hs : am_sc scr) (hw : wf h) (H : (0 ≤ (am_w (x3 + 1)) ∧ (am_w (x3 + 1)) < (scr.1 : Int)) ∧ ((0 ≤ (am_w (x3 + 2)) ∧ (am_w (x3 + 2)) < (scr.1 : Int)) ∧ (am_R (am_prog scr) d f_S_heardBy 0 [some (.inr (.inr ((0 : Nat) : Int))), some (.inl (scr.2 ((am_w (x3 + 1)).toNat))), some (.inl (scr.2 ((am_w (x3 + 2)).toNat))), none] [] h (fun v g3 => ∃ r4 : Int, v = some (.inl r4) ∧ wf g3 ∧ ((0 ≤ (am_w (x3 + 1)) ∧ (am_w (x3 + 1)) < (scr.1 : Int)) ∧ ((0 ≤ (am_w (x3 + 2)) ∧ (am_w (x3 + 2)) < (scr.1 : Int)) ∧ (am_R (am_prog scr) d f_M_heardBy 0 [some (.inr (.inr ((109 : Nat) : Int))), some (.inl (scr.2 ((am_w (x3 + 1)).toNat))), some (.inl (scr.2 ((am_w (x3 + 2)).toNat))), none, none, none, none] [] g3 (fun v g7 => ∃ r8 : Int, v = some (.inl r8) ∧ wf g7 ∧ ((r4 = r8 → (∀ y9 : Int, y9 = am_w (x3 + 6) → (am_R (am_prog scr) (d + 1) f_L_law 18 [some (.inr (.inr (-1000))), some (.inr (.inr ((0 : Nat) : Int))), some (.inr (.inr ((109 : Nat) : Int))), some (.inl y9)] [] g7 Q))) ∧ (¬ (r4 = r8) → (Q (some (.inl 0)) g7))))))))))) : am_R (am_prog scr) (d + 1) f_L_law 935 [some (.inr (.inr (-1000))), some (.inr (.inr ((0 : Nat) : Int))), some (.inr (.inr ((109 : Nat) : Int))), some (.inl x3)] [] h Q := by
  have hp : ∀ k, (am_prog scr).1 f_L_law k = c_L_law scr k := fun _ => rfl
  refine am_R.next ((hp 935).trans rfl) rfl ?_
  refine am_R.next ((hp 936).trans rfl) rfl ?_
  refine am_R.next ((hp 937).trans rfl) rfl ?_
  refine am_R.next ((hp 938).trans rfl) rfl ?_
  refine am_R.next ((hp 939).trans rfl) rfl ?_
  obtain ⟨c1, H⟩ := H
  refine r_sld ((hp 940).trans rfl) c1 ?_
  refine am_R.next ((hp 941).trans rfl) rfl ?_
  refine am_R.next ((hp 942).trans rfl) rfl ?_
  refine am_R.next ((hp 943).trans rfl) rfl ?_
  refine am_R.next ((hp 944).trans rfl) rfl ?_
  obtain ⟨c2, H⟩ := H
  refine r_sld ((hp 945).trans rfl) c2 ?_
  refine r_cv (bs := [.inl (scr.2 ((am_w (x3 + 1)).toNat)), .inl (scr.2 ((am_w (x3 + 2)).toNat))]) (st' := []) ((hp 946).trans rfl) (hw.o (i := 0) (by decide) rfl) rfl rfl (Nat.le_of_ble_eq_true rfl) (Nat.le_of_ble_eq_true rfl) (am_R.post H (fun v g3 hq => ?_))
  obtain ⟨r4, rfl, hw, H⟩ := hq
  change am_R _ _ _ _ _ [.inl r4] _ _
  refine am_R.next ((hp 949).trans rfl) rfl ?_
  refine am_R.next ((hp 950).trans rfl) rfl ?_
  refine am_R.next ((hp 951).trans rfl) rfl ?_
  refine am_R.next ((hp 952).trans rfl) rfl ?_
  refine am_R.next ((hp 953).trans rfl) rfl ?_
  obtain ⟨c5, H⟩ := H
  refine r_sld ((hp 954).trans rfl) c5 ?_
  refine am_R.next ((hp 955).trans rfl) rfl ?_
  refine am_R.next ((hp 956).trans rfl) rfl ?_
  refine am_R.next ((hp 957).trans rfl) rfl ?_
  refine am_R.next ((hp 958).trans rfl) rfl ?_
  obtain ⟨c6, H⟩ := H
  refine r_sld ((hp 959).trans rfl) c6 ?_
  refine r_cv (bs := [.inl (scr.2 ((am_w (x3 + 1)).toNat)), .inl (scr.2 ((am_w (x3 + 2)).toNat))]) (st' := [.inl r4]) ((hp 960).trans rfl) (hw.o (i := 109) (by decide) rfl) rfl rfl (Nat.le_of_ble_eq_true rfl) (Nat.le_of_ble_eq_true rfl) (am_R.post H (fun v g7 hq => ?_))
  obtain ⟨r8, rfl, hw, H⟩ := hq
  change am_R _ _ _ _ _ [.inl r8, .inl r4] _ _
  refine r_ic ((hp 963).trans rfl) (fun c10 => ?_) (fun c10 => ?_)
  · have H := H.1 c10
    obtain ⟨y9, ey9⟩ : ∃ z : Int, z = am_w (x3 + 6) := ⟨_, rfl⟩
    have H := H y9 ey9
    refine am_R.next (lv' := [some (.inr (.inr (-1000))), some (.inr (.inr ((0 : Nat) : Int))), some (.inr (.inr ((109 : Nat) : Int))), some (.inl y9)]) (st' := []) (h' := g7) (pc' := 1361) ((hp 1358).trans rfl) (by rw [ey9]; rfl) ?_
    refine am_R.next ((hp 1361).trans rfl) rfl ?_
    exact H
  · have H := H.2 c10
    refine am_R.next ((hp 966).trans rfl) rfl ?_
    exact r_zret ((hp 967).trans rfl) (Or.inl rfl) H
theorem w_L_law_968 {scr : Nat × (Nat → Int)} {d : Nat} {h : am_H} {Q : Option am_V → am_H → Prop} {x3 : Int} (hs : am_sc scr) (hw : wf h) (H : (0 ≤ (am_w (x3 + 1)) ∧ (am_w (x3 + 1)) < (scr.1 : Int)) ∧ ((0 ≤ (am_w (x3 + 2)) ∧ (am_w (x3 + 2)) < (scr.1 : Int)) ∧ (am_R (am_prog scr) d f_S_suspects 0 [some (.inr (.inr ((0 : Nat) : Int))), some (.inl (scr.2 ((am_w (x3 + 1)).toNat))), some (.inl (scr.2 ((am_w (x3 + 2)).toNat))), none] [] h (fun v g3 => ∃ r4 : Int, v = some (.inl r4) ∧ wf g3 ∧ ((0 ≤ (am_w (x3 + 1)) ∧ (am_w (x3 + 1)) < (scr.1 : Int)) ∧ ((0 ≤ (am_w (x3 + 2)) ∧ (am_w (x3 + 2)) < (scr.1 : Int)) ∧ (am_R (am_prog scr) d f_M_suspects 0 [some (.inr (.inr ((109 : Nat) : Int))), some (.inl (scr.2 ((am_w (x3 + 1)).toNat))), some (.inl (scr.2 ((am_w (x3 + 2)).toNat))), none, none, none, none, none, none] [] g3 (fun v g7 => ∃ r8 : Int, v = some (.inl r8) ∧ wf g7 ∧ ((r4 = r8 → (∀ y9 : Int, y9 = am_w (x3 + 6) → (am_R (am_prog scr) (d + 1) f_L_law 18 [some (.inr (.inr (-1000))), some (.inr (.inr ((0 : Nat) : Int))), some (.inr (.inr ((109 : Nat) : Int))), some (.inl y9)] [] g7 Q))) ∧ (¬ (r4 = r8) → (Q (some (.inl 0)) g7))))))))))) : am_R (am_prog scr) (d + 1) f_L_law 968 [some (.inr (.inr (-1000))), some (.inr (.inr ((0 : Nat) : Int))), some (.inr (.inr ((109 : Nat) : Int))), some (.inl x3)] [] h Q := by
  have hp : ∀ k, (am_prog scr).1 f_L_law k = c_L_law scr k := fun _ => rfl
  refine am_R.next ((hp 968).trans rfl) rfl ?_
  refine am_R.next ((hp 969).trans rfl) rfl ?_
  refine am_R.next ((hp 970).trans rfl) rfl ?_
  refine am_R.next ((hp 971).trans rfl) rfl ?_
  refine am_R.next ((hp 972).trans rfl) rfl ?_
  obtain ⟨c1, H⟩ := H
  refine r_sld ((hp 973).trans rfl) c1 ?_
  refine am_R.next ((hp 974).trans rfl) rfl ?_
  refine am_R.next ((hp 975).trans rfl) rfl ?_
  refine am_R.next ((hp 976).trans rfl) rfl ?_
  refine am_R.next ((hp 977).trans rfl) rfl ?_
  obtain ⟨c2, H⟩ := H
  refine r_sld ((hp 978).trans rfl) c2 ?_
  refine r_cv (bs := [.inl (scr.2 ((am_w (x3 + 1)).toNat)), .inl (scr.2 ((am_w (x3 + 2)).toNat))]) (st' := []) ((hp 979).trans rfl) (hw.o (i := 0) (by decide) rfl) rfl rfl (Nat.le_of_ble_eq_true rfl) (Nat.le_of_ble_eq_true rfl) (am_R.post H (fun v g3 hq => ?_))
  obtain ⟨r4, rfl, hw, H⟩ := hq
  change am_R _ _ _ _ _ [.inl r4] _ _
  refine am_R.next ((hp 982).trans rfl) rfl ?_
  refine am_R.next ((hp 983).trans rfl) rfl ?_
  refine am_R.next ((hp 984).trans rfl) rfl ?_
  refine am_R.next ((hp 985).trans rfl) rfl ?_
  refine am_R.next ((hp 986).trans rfl) rfl ?_
  obtain ⟨c5, H⟩ := H
  refine r_sld ((hp 987).trans rfl) c5 ?_
  refine am_R.next ((hp 988).trans rfl) rfl ?_
  refine am_R.next ((hp 989).trans rfl) rfl ?_
  refine am_R.next ((hp 990).trans rfl) rfl ?_
  refine am_R.next ((hp 991).trans rfl) rfl ?_
  obtain ⟨c6, H⟩ := H
  refine r_sld ((hp 992).trans rfl) c6 ?_
  refine r_cv (bs := [.inl (scr.2 ((am_w (x3 + 1)).toNat)), .inl (scr.2 ((am_w (x3 + 2)).toNat))]) (st' := [.inl r4]) ((hp 993).trans rfl) (hw.o (i := 109) (by decide) rfl) rfl rfl (Nat.le_of_ble_eq_true rfl) (Nat.le_of_ble_eq_true rfl) (am_R.post H (fun v g7 hq => ?_))
  obtain ⟨r8, rfl, hw, H⟩ := hq
  change am_R _ _ _ _ _ [.inl r8, .inl r4] _ _
  refine r_ic ((hp 996).trans rfl) (fun c10 => ?_) (fun c10 => ?_)
  · have H := H.1 c10
    obtain ⟨y9, ey9⟩ : ∃ z : Int, z = am_w (x3 + 6) := ⟨_, rfl⟩
    have H := H y9 ey9
    refine am_R.next (lv' := [some (.inr (.inr (-1000))), some (.inr (.inr ((0 : Nat) : Int))), some (.inr (.inr ((109 : Nat) : Int))), some (.inl y9)]) (st' := []) (h' := g7) (pc' := 1361) ((hp 1358).trans rfl) (by rw [ey9]; rfl) ?_
    refine am_R.next ((hp 1361).trans rfl) rfl ?_
    exact H
  · have H := H.2 c10
    refine am_R.next ((hp 999).trans rfl) rfl ?_
    exact r_zret ((hp 1000).trans rfl) (Or.inl rfl) H
theorem w_L_law_1001 {scr : Nat × (Nat → Int)} {d : Nat} {h : am_H} {Q : Option am_V → am_H → Prop} {x3 : Int} (hs : am_sc scr) (hw : wf h) (H : (0 ≤ (am_w (x3 + 1)) ∧ (am_w (x3 + 1)) < (scr.1 : Int)) ∧ (am_R (am_prog scr) d f_S_hushes 0 [some (.inr (.inr ((0 : Nat) : Int))), some (.inl (scr.2 ((am_w (x3 + 1)).toNat))), none] [] h (fun v g2 => ∃ r3 : Int, v = some (.inl r3) ∧ wf g2 ∧ ((0 ≤ (am_w (x3 + 1)) ∧ (am_w (x3 + 1)) < (scr.1 : Int)) ∧ (am_R (am_prog scr) d f_M_hushes 0 [some (.inr (.inr ((109 : Nat) : Int))), some (.inl (scr.2 ((am_w (x3 + 1)).toNat))), none] [] g2 (fun v g5 => ∃ r6 : Int, v = some (.inl r6) ∧ wf g5 ∧ ((r3 = r6 → (∀ y7 : Int, y7 = am_w (x3 + 6) → (am_R (am_prog scr) (d + 1) f_L_law 18 [some (.inr (.inr (-1000))), some (.inr (.inr ((0 : Nat) : Int))), some (.inr (.inr ((109 : Nat) : Int))), some (.inl y7)] [] g5 Q))) ∧ (¬ (r3 = r6) → (Q (some (.inl 0)) g5))))))))) : am_R (am_prog scr) (d + 1) f_L_law 1001 [some (.inr (.inr (-1000))), some (.inr (.inr ((0 : Nat) : Int))), some (.inr (.inr ((109 : Nat) : Int))), some (.inl x3)] [] h Q := by
  have hp : ∀ k, (am_prog scr).1 f_L_law k = c_L_law scr k := fun _ => rfl
  refine am_R.next ((hp 1001).trans rfl) rfl ?_
  refine am_R.next ((hp 1002).trans rfl) rfl ?_
  refine am_R.next ((hp 1003).trans rfl) rfl ?_
  refine am_R.next ((hp 1004).trans rfl) rfl ?_
  refine am_R.next ((hp 1005).trans rfl) rfl ?_
  obtain ⟨c1, H⟩ := H
  refine r_sld ((hp 1006).trans rfl) c1 ?_
  refine r_cv (bs := [.inl (scr.2 ((am_w (x3 + 1)).toNat))]) (st' := []) ((hp 1007).trans rfl) (hw.o (i := 0) (by decide) rfl) rfl rfl (Nat.le_of_ble_eq_true rfl) (Nat.le_of_ble_eq_true rfl) (am_R.post H (fun v g2 hq => ?_))
  obtain ⟨r3, rfl, hw, H⟩ := hq
  change am_R _ _ _ _ _ [.inl r3] _ _
  refine am_R.next ((hp 1010).trans rfl) rfl ?_
  refine am_R.next ((hp 1011).trans rfl) rfl ?_
  refine am_R.next ((hp 1012).trans rfl) rfl ?_
  refine am_R.next ((hp 1013).trans rfl) rfl ?_
  refine am_R.next ((hp 1014).trans rfl) rfl ?_
  obtain ⟨c4, H⟩ := H
  refine r_sld ((hp 1015).trans rfl) c4 ?_
  refine r_cv (bs := [.inl (scr.2 ((am_w (x3 + 1)).toNat))]) (st' := [.inl r3]) ((hp 1016).trans rfl) (hw.o (i := 109) (by decide) rfl) rfl rfl (Nat.le_of_ble_eq_true rfl) (Nat.le_of_ble_eq_true rfl) (am_R.post H (fun v g5 hq => ?_))
  obtain ⟨r6, rfl, hw, H⟩ := hq
  change am_R _ _ _ _ _ [.inl r6, .inl r3] _ _
  refine r_ic ((hp 1019).trans rfl) (fun c8 => ?_) (fun c8 => ?_)
  · have H := H.1 c8
    obtain ⟨y7, ey7⟩ : ∃ z : Int, z = am_w (x3 + 6) := ⟨_, rfl⟩
    have H := H y7 ey7
    refine am_R.next (lv' := [some (.inr (.inr (-1000))), some (.inr (.inr ((0 : Nat) : Int))), some (.inr (.inr ((109 : Nat) : Int))), some (.inl y7)]) (st' := []) (h' := g5) (pc' := 1361) ((hp 1358).trans rfl) (by rw [ey7]; rfl) ?_
    refine am_R.next ((hp 1361).trans rfl) rfl ?_
    exact H
  · have H := H.2 c8
    refine am_R.next ((hp 1022).trans rfl) rfl ?_
    exact r_zret ((hp 1023).trans rfl) (Or.inl rfl) H
theorem w_L_law_1024 {scr : Nat × (Nat → Int)} {d : Nat} {h : am_H} {Q : Option am_V → am_H → Prop} {x3 : Int} (hs : am_sc scr) (hw : wf h) (H : (0 ≤ (am_w (x3 + 1)) ∧ (am_w (x3 + 1)) < (scr.1 : Int)) ∧ (am_R (am_prog scr) d f_S_attempt 0 [some (.inr (.inr ((0 : Nat) : Int))), some (.inl (scr.2 ((am_w (x3 + 1)).toNat))), none, none, none, none, none, none] [] h (fun v g2 => ∃ r3 : Int, v = some (.inl r3) ∧ wf g2 ∧ ((0 ≤ (am_w (x3 + 1)) ∧ (am_w (x3 + 1)) < (scr.1 : Int)) ∧ (am_R (am_prog scr) d f_M_attempt 0 [some (.inr (.inr ((109 : Nat) : Int))), some (.inl (scr.2 ((am_w (x3 + 1)).toNat))), none, none, none, none, none, none] [] g2 (fun v g5 => ∃ r6 : Int, v = some (.inl r6) ∧ wf g5 ∧ ((r3 = r6 → (∀ y7 : Int, y7 = am_w (x3 + 6) → (am_R (am_prog scr) (d + 1) f_L_law 18 [some (.inr (.inr (-1000))), some (.inr (.inr ((0 : Nat) : Int))), some (.inr (.inr ((109 : Nat) : Int))), some (.inl y7)] [] g5 Q))) ∧ (¬ (r3 = r6) → (Q (some (.inl 0)) g5))))))))) : am_R (am_prog scr) (d + 1) f_L_law 1024 [some (.inr (.inr (-1000))), some (.inr (.inr ((0 : Nat) : Int))), some (.inr (.inr ((109 : Nat) : Int))), some (.inl x3)] [] h Q := by
  have hp : ∀ k, (am_prog scr).1 f_L_law k = c_L_law scr k := fun _ => rfl
  refine am_R.next ((hp 1024).trans rfl) rfl ?_
  refine am_R.next ((hp 1025).trans rfl) rfl ?_
  refine am_R.next ((hp 1026).trans rfl) rfl ?_
  refine am_R.next ((hp 1027).trans rfl) rfl ?_
  refine am_R.next ((hp 1028).trans rfl) rfl ?_
  obtain ⟨c1, H⟩ := H
  refine r_sld ((hp 1029).trans rfl) c1 ?_
  refine r_cv (bs := [.inl (scr.2 ((am_w (x3 + 1)).toNat))]) (st' := []) ((hp 1030).trans rfl) (hw.o (i := 0) (by decide) rfl) rfl rfl (Nat.le_of_ble_eq_true rfl) (Nat.le_of_ble_eq_true rfl) (am_R.post H (fun v g2 hq => ?_))
  obtain ⟨r3, rfl, hw, H⟩ := hq
  change am_R _ _ _ _ _ [.inl r3] _ _
  refine am_R.next ((hp 1033).trans rfl) rfl ?_
  refine am_R.next ((hp 1034).trans rfl) rfl ?_
  refine am_R.next ((hp 1035).trans rfl) rfl ?_
  refine am_R.next ((hp 1036).trans rfl) rfl ?_
  refine am_R.next ((hp 1037).trans rfl) rfl ?_
  obtain ⟨c4, H⟩ := H
  refine r_sld ((hp 1038).trans rfl) c4 ?_
  refine r_cv (bs := [.inl (scr.2 ((am_w (x3 + 1)).toNat))]) (st' := [.inl r3]) ((hp 1039).trans rfl) (hw.o (i := 109) (by decide) rfl) rfl rfl (Nat.le_of_ble_eq_true rfl) (Nat.le_of_ble_eq_true rfl) (am_R.post H (fun v g5 hq => ?_))
  obtain ⟨r6, rfl, hw, H⟩ := hq
  change am_R _ _ _ _ _ [.inl r6, .inl r3] _ _
  refine r_ic ((hp 1042).trans rfl) (fun c8 => ?_) (fun c8 => ?_)
  · have H := H.1 c8
    obtain ⟨y7, ey7⟩ : ∃ z : Int, z = am_w (x3 + 6) := ⟨_, rfl⟩
    have H := H y7 ey7
    refine am_R.next (lv' := [some (.inr (.inr (-1000))), some (.inr (.inr ((0 : Nat) : Int))), some (.inr (.inr ((109 : Nat) : Int))), some (.inl y7)]) (st' := []) (h' := g5) (pc' := 1361) ((hp 1358).trans rfl) (by rw [ey7]; rfl) ?_
    refine am_R.next ((hp 1361).trans rfl) rfl ?_
    exact H
  · have H := H.2 c8
    refine am_R.next ((hp 1045).trans rfl) rfl ?_
    exact r_zret ((hp 1046).trans rfl) (Or.inl rfl) H
theorem w_L_law_1047 {scr : Nat × (Nat → Int)} {d : Nat} {h : am_H} {Q : Option am_V → am_H → Prop} {x3 : Int} (hs : am_sc scr) (hw : wf h) (H : am_R (am_prog scr) d f_S_forces 0 [some (.inr (.inr ((0 : Nat) : Int)))] [] h (fun v g1 => ∃ r2 : Int, v = some (.inl r2) ∧ wf g1 ∧ (am_R (am_prog scr) d f_M_forces 0 [some (.inr (.inr ((109 : Nat) : Int)))] [] g1 (fun v g3 => ∃ r4 : Int, v = some (.inl r4) ∧ wf g3 ∧ ((r2 = r4 → (∀ y5 : Int, y5 = am_w (x3 + 6) → (am_R (am_prog scr) (d + 1) f_L_law 18 [some (.inr (.inr (-1000))), some (.inr (.inr ((0 : Nat) : Int))), some (.inr (.inr ((109 : Nat) : Int))), some (.inl y5)] [] g3 Q))) ∧ (¬ (r2 = r4) → (Q (some (.inl 0)) g3))))))) : am_R (am_prog scr) (d + 1) f_L_law 1047 [some (.inr (.inr (-1000))), some (.inr (.inr ((0 : Nat) : Int))), some (.inr (.inr ((109 : Nat) : Int))), some (.inl x3)] [] h Q := by
  have hp : ∀ k, (am_prog scr).1 f_L_law k = c_L_law scr k := fun _ => rfl
  refine am_R.next ((hp 1047).trans rfl) rfl ?_
  refine r_cv (bs := []) (st' := []) ((hp 1048).trans rfl) (hw.o (i := 0) (by decide) rfl) rfl rfl (Nat.le_of_ble_eq_true rfl) (Nat.le_of_ble_eq_true rfl) (am_R.post H (fun v g1 hq => ?_))
  obtain ⟨r2, rfl, hw, H⟩ := hq
  change am_R _ _ _ _ _ [.inl r2] _ _
  refine am_R.next ((hp 1051).trans rfl) rfl ?_
  refine r_cv (bs := []) (st' := [.inl r2]) ((hp 1052).trans rfl) (hw.o (i := 109) (by decide) rfl) rfl rfl (Nat.le_of_ble_eq_true rfl) (Nat.le_of_ble_eq_true rfl) (am_R.post H (fun v g3 hq => ?_))
  obtain ⟨r4, rfl, hw, H⟩ := hq
  change am_R _ _ _ _ _ [.inl r4, .inl r2] _ _
  refine r_ic ((hp 1055).trans rfl) (fun c6 => ?_) (fun c6 => ?_)
  · have H := H.1 c6
    obtain ⟨y5, ey5⟩ : ∃ z : Int, z = am_w (x3 + 6) := ⟨_, rfl⟩
    have H := H y5 ey5
    refine am_R.next (lv' := [some (.inr (.inr (-1000))), some (.inr (.inr ((0 : Nat) : Int))), some (.inr (.inr ((109 : Nat) : Int))), some (.inl y5)]) (st' := []) (h' := g3) (pc' := 1361) ((hp 1358).trans rfl) (by rw [ey5]; rfl) ?_
    refine am_R.next ((hp 1361).trans rfl) rfl ?_
    exact H
  · have H := H.2 c6
    refine am_R.next ((hp 1058).trans rfl) rfl ?_
    exact r_zret ((hp 1059).trans rfl) (Or.inl rfl) H
theorem w_L_law_1060 {scr : Nat × (Nat → Int)} {d : Nat} {h : am_H} {Q : Option am_V → am_H → Prop} {x3 : Int} (hs : am_sc scr) (hw : wf h) (H : am_R (am_prog scr) d f_S_best 0 [some (.inr (.inr ((0 : Nat) : Int)))] [] h (fun v g1 => ∃ r2 : Int, v = some (.inl r2) ∧ wf g1 ∧ (am_R (am_prog scr) d f_M_best 0 [some (.inr (.inr ((109 : Nat) : Int))), none, none] [] g1 (fun v g3 => ∃ r4 : Int, v = some (.inl r4) ∧ wf g3 ∧ ((r2 = r4 → (∀ y5 : Int, y5 = am_w (x3 + 6) → (am_R (am_prog scr) (d + 1) f_L_law 18 [some (.inr (.inr (-1000))), some (.inr (.inr ((0 : Nat) : Int))), some (.inr (.inr ((109 : Nat) : Int))), some (.inl y5)] [] g3 Q))) ∧ (¬ (r2 = r4) → (Q (some (.inl 0)) g3))))))) : am_R (am_prog scr) (d + 1) f_L_law 1060 [some (.inr (.inr (-1000))), some (.inr (.inr ((0 : Nat) : Int))), some (.inr (.inr ((109 : Nat) : Int))), some (.inl x3)] [] h Q := by
  have hp : ∀ k, (am_prog scr).1 f_L_law k = c_L_law scr k := fun _ => rfl
  refine am_R.next ((hp 1060).trans rfl) rfl ?_
  refine r_cv (bs := []) (st' := []) ((hp 1061).trans rfl) (hw.o (i := 0) (by decide) rfl) rfl rfl (Nat.le_of_ble_eq_true rfl) (Nat.le_of_ble_eq_true rfl) (am_R.post H (fun v g1 hq => ?_))
  obtain ⟨r2, rfl, hw, H⟩ := hq
  change am_R _ _ _ _ _ [.inl r2] _ _
  refine am_R.next ((hp 1064).trans rfl) rfl ?_
  refine r_cv (bs := []) (st' := [.inl r2]) ((hp 1065).trans rfl) (hw.o (i := 109) (by decide) rfl) rfl rfl (Nat.le_of_ble_eq_true rfl) (Nat.le_of_ble_eq_true rfl) (am_R.post H (fun v g3 hq => ?_))
  obtain ⟨r4, rfl, hw, H⟩ := hq
  change am_R _ _ _ _ _ [.inl r4, .inl r2] _ _
  refine r_ic ((hp 1068).trans rfl) (fun c6 => ?_) (fun c6 => ?_)
  · have H := H.1 c6
    obtain ⟨y5, ey5⟩ : ∃ z : Int, z = am_w (x3 + 6) := ⟨_, rfl⟩
    have H := H y5 ey5
    refine am_R.next (lv' := [some (.inr (.inr (-1000))), some (.inr (.inr ((0 : Nat) : Int))), some (.inr (.inr ((109 : Nat) : Int))), some (.inl y5)]) (st' := []) (h' := g3) (pc' := 1361) ((hp 1358).trans rfl) (by rw [ey5]; rfl) ?_
    refine am_R.next ((hp 1361).trans rfl) rfl ?_
    exact H
  · have H := H.2 c6
    refine am_R.next ((hp 1071).trans rfl) rfl ?_
    exact r_zret ((hp 1072).trans rfl) (Or.inl rfl) H
theorem w_L_law_1073 {scr : Nat × (Nat → Int)} {d : Nat} {h : am_H} {Q : Option am_V → am_H → Prop} {x3 : Int} (hs : am_sc scr) (hw : wf h) (H : (0 ≤ (am_w (x3 + 1)) ∧ (am_w (x3 + 1)) < (scr.1 : Int)) ∧ ((0 ≤ (am_w (x3 + 2)) ∧ (am_w (x3 + 2)) < (scr.1 : Int)) ∧ (am_R (am_prog scr) d f_S_chance 0 [some (.inr (.inr ((0 : Nat) : Int))), some (.inl (scr.2 ((am_w (x3 + 1)).toNat))), some (.inl (scr.2 ((am_w (x3 + 2)).toNat)))] [] h (fun v g3 => ∃ r4 : Int, v = some (.inl r4) ∧ wf g3 ∧ ((0 ≤ (am_w (x3 + 1)) ∧ (am_w (x3 + 1)) < (scr.1 : Int)) ∧ ((0 ≤ (am_w (x3 + 2)) ∧ (am_w (x3 + 2)) < (scr.1 : Int)) ∧ (am_R (am_prog scr) d f_M_chance 0 [some (.inr (.inr ((109 : Nat) : Int))), some (.inl (scr.2 ((am_w (x3 + 1)).toNat))), some (.inl (scr.2 ((am_w (x3 + 2)).toNat))), none, none, none, none] [] g3 (fun v g7 => ∃ r8 : Int, v = some (.inl r8) ∧ wf g7 ∧ ((r4 = r8 → (∀ y9 : Int, y9 = am_w (x3 + 6) → (am_R (am_prog scr) (d + 1) f_L_law 18 [some (.inr (.inr (-1000))), some (.inr (.inr ((0 : Nat) : Int))), some (.inr (.inr ((109 : Nat) : Int))), some (.inl y9)] [] g7 Q))) ∧ (¬ (r4 = r8) → (Q (some (.inl 0)) g7))))))))))) : am_R (am_prog scr) (d + 1) f_L_law 1073 [some (.inr (.inr (-1000))), some (.inr (.inr ((0 : Nat) : Int))), some (.inr (.inr ((109 : Nat) : Int))), some (.inl x3)] [] h Q := by
  have hp : ∀ k, (am_prog scr).1 f_L_law k = c_L_law scr k := fun _ => rfl
  refine am_R.next ((hp 1073).trans rfl) rfl ?_
  refine am_R.next ((hp 1074).trans rfl) rfl ?_
  refine am_R.next ((hp 1075).trans rfl) rfl ?_
  refine am_R.next ((hp 1076).trans rfl) rfl ?_
  refine am_R.next ((hp 1077).trans rfl) rfl ?_
  obtain ⟨c1, H⟩ := H
  refine r_sld ((hp 1078).trans rfl) c1 ?_
  refine am_R.next ((hp 1079).trans rfl) rfl ?_
  refine am_R.next ((hp 1080).trans rfl) rfl ?_
  refine am_R.next ((hp 1081).trans rfl) rfl ?_
  refine am_R.next ((hp 1082).trans rfl) rfl ?_
  obtain ⟨c2, H⟩ := H
  refine r_sld ((hp 1083).trans rfl) c2 ?_
  refine r_cv (bs := [.inl (scr.2 ((am_w (x3 + 1)).toNat)), .inl (scr.2 ((am_w (x3 + 2)).toNat))]) (st' := []) ((hp 1084).trans rfl) (hw.o (i := 0) (by decide) rfl) rfl rfl (Nat.le_of_ble_eq_true rfl) (Nat.le_of_ble_eq_true rfl) (am_R.post H (fun v g3 hq => ?_))
  obtain ⟨r4, rfl, hw, H⟩ := hq
  change am_R _ _ _ _ _ [.inl r4] _ _
  refine am_R.next ((hp 1087).trans rfl) rfl ?_
  refine am_R.next ((hp 1088).trans rfl) rfl ?_
  refine am_R.next ((hp 1089).trans rfl) rfl ?_
  refine am_R.next ((hp 1090).trans rfl) rfl ?_
  refine am_R.next ((hp 1091).trans rfl) rfl ?_
  obtain ⟨c5, H⟩ := H
  refine r_sld ((hp 1092).trans rfl) c5 ?_
  refine am_R.next ((hp 1093).trans rfl) rfl ?_
  refine am_R.next ((hp 1094).trans rfl) rfl ?_
  refine am_R.next ((hp 1095).trans rfl) rfl ?_
  refine am_R.next ((hp 1096).trans rfl) rfl ?_
  obtain ⟨c6, H⟩ := H
  refine r_sld ((hp 1097).trans rfl) c6 ?_
  refine r_cv (bs := [.inl (scr.2 ((am_w (x3 + 1)).toNat)), .inl (scr.2 ((am_w (x3 + 2)).toNat))]) (st' := [.inl r4]) ((hp 1098).trans rfl) (hw.o (i := 109) (by decide) rfl) rfl rfl (Nat.le_of_ble_eq_true rfl) (Nat.le_of_ble_eq_true rfl) (am_R.post H (fun v g7 hq => ?_))
  obtain ⟨r8, rfl, hw, H⟩ := hq
  change am_R _ _ _ _ _ [.inl r8, .inl r4] _ _
  refine r_ic ((hp 1101).trans rfl) (fun c10 => ?_) (fun c10 => ?_)
  · have H := H.1 c10
    obtain ⟨y9, ey9⟩ : ∃ z : Int, z = am_w (x3 + 6) := ⟨_, rfl⟩
    have H := H y9 ey9
    refine am_R.next (lv' := [some (.inr (.inr (-1000))), some (.inr (.inr ((0 : Nat) : Int))), some (.inr (.inr ((109 : Nat) : Int))), some (.inl y9)]) (st' := []) (h' := g7) (pc' := 1361) ((hp 1358).trans rfl) (by rw [ey9]; rfl) ?_
    refine am_R.next ((hp 1361).trans rfl) rfl ?_
    exact H
  · have H := H.2 c10
    refine am_R.next ((hp 1104).trans rfl) rfl ?_
    exact r_zret ((hp 1105).trans rfl) (Or.inl rfl) H
theorem w_L_law_1106 {scr : Nat × (Nat → Int)} {d : Nat} {h : am_H} {Q : Option am_V → am_H → Prop} {x3 : Int} (hs : am_sc scr) (hw : wf h) (H : (0 ≤ (am_w (x3 + 1)) ∧ (am_w (x3 + 1)) < (scr.1 : Int)) ∧ ((0 ≤ (am_w (x3 + 2)) ∧ (am_w (x3 + 2)) < (scr.1 : Int)) ∧ (am_R (am_prog scr) d f_S_mean 0 [some (.inr (.inr ((0 : Nat) : Int))), some (.inl (scr.2 ((am_w (x3 + 1)).toNat))), some (.inl (scr.2 ((am_w (x3 + 2)).toNat)))] [] h (fun v g3 => ∃ r4 : Int, v = some (.inl r4) ∧ wf g3 ∧ ((0 ≤ (am_w (x3 + 1)) ∧ (am_w (x3 + 1)) < (scr.1 : Int)) ∧ ((0 ≤ (am_w (x3 + 2)) ∧ (am_w (x3 + 2)) < (scr.1 : Int)) ∧ (am_R (am_prog scr) d f_M_mean 0 [some (.inr (.inr ((109 : Nat) : Int))), some (.inl (scr.2 ((am_w (x3 + 1)).toNat))), some (.inl (scr.2 ((am_w (x3 + 2)).toNat))), none, none, none, none] [] g3 (fun v g7 => ∃ r8 : Int, v = some (.inl r8) ∧ wf g7 ∧ ((r4 = r8 → (∀ y9 : Int, y9 = am_w (x3 + 6) → (am_R (am_prog scr) (d + 1) f_L_law 18 [some (.inr (.inr (-1000))), some (.inr (.inr ((0 : Nat) : Int))), some (.inr (.inr ((109 : Nat) : Int))), some (.inl y9)] [] g7 Q))) ∧ (¬ (r4 = r8) → (Q (some (.inl 0)) g7))))))))))) : am_R (am_prog scr) (d + 1) f_L_law 1106 [some (.inr (.inr (-1000))), some (.inr (.inr ((0 : Nat) : Int))), some (.inr (.inr ((109 : Nat) : Int))), some (.inl x3)] [] h Q := by
  have hp : ∀ k, (am_prog scr).1 f_L_law k = c_L_law scr k := fun _ => rfl
  refine am_R.next ((hp 1106).trans rfl) rfl ?_
  refine am_R.next ((hp 1107).trans rfl) rfl ?_
  refine am_R.next ((hp 1108).trans rfl) rfl ?_
  refine am_R.next ((hp 1109).trans rfl) rfl ?_
  refine am_R.next ((hp 1110).trans rfl) rfl ?_
  obtain ⟨c1, H⟩ := H
  refine r_sld ((hp 1111).trans rfl) c1 ?_
  refine am_R.next ((hp 1112).trans rfl) rfl ?_
  refine am_R.next ((hp 1113).trans rfl) rfl ?_
  refine am_R.next ((hp 1114).trans rfl) rfl ?_
  refine am_R.next ((hp 1115).trans rfl) rfl ?_
  obtain ⟨c2, H⟩ := H
  refine r_sld ((hp 1116).trans rfl) c2 ?_
  refine r_cv (bs := [.inl (scr.2 ((am_w (x3 + 1)).toNat)), .inl (scr.2 ((am_w (x3 + 2)).toNat))]) (st' := []) ((hp 1117).trans rfl) (hw.o (i := 0) (by decide) rfl) rfl rfl (Nat.le_of_ble_eq_true rfl) (Nat.le_of_ble_eq_true rfl) (am_R.post H (fun v g3 hq => ?_))
  obtain ⟨r4, rfl, hw, H⟩ := hq
  change am_R _ _ _ _ _ [.inl r4] _ _
  refine am_R.next ((hp 1120).trans rfl) rfl ?_
  refine am_R.next ((hp 1121).trans rfl) rfl ?_
  refine am_R.next ((hp 1122).trans rfl) rfl ?_
  refine am_R.next ((hp 1123).trans rfl) rfl ?_
  refine am_R.next ((hp 1124).trans rfl) rfl ?_
  obtain ⟨c5, H⟩ := H
  refine r_sld ((hp 1125).trans rfl) c5 ?_
  refine am_R.next ((hp 1126).trans rfl) rfl ?_
  refine am_R.next ((hp 1127).trans rfl) rfl ?_
  refine am_R.next ((hp 1128).trans rfl) rfl ?_
  refine am_R.next ((hp 1129).trans rfl) rfl ?_
  obtain ⟨c6, H⟩ := H
  refine r_sld ((hp 1130).trans rfl) c6 ?_
  refine r_cv (bs := [.inl (scr.2 ((am_w (x3 + 1)).toNat)), .inl (scr.2 ((am_w (x3 + 2)).toNat))]) (st' := [.inl r4]) ((hp 1131).trans rfl) (hw.o (i := 109) (by decide) rfl) rfl rfl (Nat.le_of_ble_eq_true rfl) (Nat.le_of_ble_eq_true rfl) (am_R.post H (fun v g7 hq => ?_))
  obtain ⟨r8, rfl, hw, H⟩ := hq
  change am_R _ _ _ _ _ [.inl r8, .inl r4] _ _
  refine r_ic ((hp 1134).trans rfl) (fun c10 => ?_) (fun c10 => ?_)
  · have H := H.1 c10
    obtain ⟨y9, ey9⟩ : ∃ z : Int, z = am_w (x3 + 6) := ⟨_, rfl⟩
    have H := H y9 ey9
    refine am_R.next (lv' := [some (.inr (.inr (-1000))), some (.inr (.inr ((0 : Nat) : Int))), some (.inr (.inr ((109 : Nat) : Int))), some (.inl y9)]) (st' := []) (h' := g7) (pc' := 1361) ((hp 1358).trans rfl) (by rw [ey9]; rfl) ?_
    refine am_R.next ((hp 1361).trans rfl) rfl ?_
    exact H
  · have H := H.2 c10
    refine am_R.next ((hp 1137).trans rfl) rfl ?_
    exact r_zret ((hp 1138).trans rfl) (Or.inl rfl) H
theorem w_L_law_1139 {scr : Nat × (Nat → Int)} {d : Nat} {h : am_H} {Q : Option am_V → am_H → Prop} {x3 : Int} (hs : am_sc scr) (hw : wf h) (H : (0 ≤ (am_w (x3 + 1)) ∧ (am_w (x3 + 1)) < (scr.1 : Int)) ∧ ((0 ≤ (am_w (x3 + 2)) ∧ (am_w (x3 + 2)) < (scr.1 : Int)) ∧ ((0 ≤ (am_w (x3 + 3)) ∧ (am_w (x3 + 3)) < (scr.1 : Int)) ∧ (am_R (am_prog scr) d f_S_numbers 0 [some (.inr (.inr ((0 : Nat) : Int))), some (.inl (scr.2 ((am_w (x3 + 1)).toNat))), some (.inl (scr.2 ((am_w (x3 + 2)).toNat))), some (.inl (scr.2 ((am_w (x3 + 3)).toNat)))] [] h (fun v g4 => ∃ r5 : Int, v = some (.inl r5) ∧ wf g4 ∧ ((0 ≤ (am_w (x3 + 1)) ∧ (am_w (x3 + 1)) < (scr.1 : Int)) ∧ ((0 ≤ (am_w (x3 + 2)) ∧ (am_w (x3 + 2)) < (scr.1 : Int)) ∧ ((0 ≤ (am_w (x3 + 3)) ∧ (am_w (x3 + 3)) < (scr.1 : Int)) ∧ (am_R (am_prog scr) d f_M_numbers 0 [some (.inr (.inr ((109 : Nat) : Int))), some (.inl (scr.2 ((am_w (x3 + 1)).toNat))), some (.inl (scr.2 ((am_w (x3 + 2)).toNat))), some (.inl (scr.2 ((am_w (x3 + 3)).toNat))), none] [] g4 (fun v g9 => ∃ r10 : Int, v = some (.inl r10) ∧ wf g9 ∧ ((r5 = r10 → (∀ y11 : Int, y11 = am_w (x3 + 6) → (am_R (am_prog scr) (d + 1) f_L_law 18 [some (.inr (.inr (-1000))), some (.inr (.inr ((0 : Nat) : Int))), some (.inr (.inr ((109 : Nat) : Int))), some (.inl y11)] [] g9 Q))) ∧ (¬ (r5 = r10) → (Q (some (.inl 0)) g9))))))))))))) : am_R (am_prog scr) (d + 1) f_L_law 1139 [some (.inr (.inr (-1000))), some (.inr (.inr ((0 : Nat) : Int))), some (.inr (.inr ((109 : Nat) : Int))), some (.inl x3)] [] h Q := by
  have hp : ∀ k, (am_prog scr).1 f_L_law k = c_L_law scr k := fun _ => rfl
  refine am_R.next ((hp 1139).trans rfl) rfl ?_
  refine am_R.next ((hp 1140).trans rfl) rfl ?_
  refine am_R.next ((hp 1141).trans rfl) rfl ?_
  refine am_R.next ((hp 1142).trans rfl) rfl ?_
  refine am_R.next ((hp 1143).trans rfl) rfl ?_
  obtain ⟨c1, H⟩ := H
  refine r_sld ((hp 1144).trans rfl) c1 ?_
  refine am_R.next ((hp 1145).trans rfl) rfl ?_
  refine am_R.next ((hp 1146).trans rfl) rfl ?_
  refine am_R.next ((hp 1147).trans rfl) rfl ?_
  refine am_R.next ((hp 1148).trans rfl) rfl ?_
  obtain ⟨c2, H⟩ := H
  refine r_sld ((hp 1149).trans rfl) c2 ?_
  refine am_R.next ((hp 1150).trans rfl) rfl ?_
  refine am_R.next ((hp 1151).trans rfl) rfl ?_
  refine am_R.next ((hp 1152).trans rfl) rfl ?_
  refine am_R.next ((hp 1153).trans rfl) rfl ?_
  obtain ⟨c3, H⟩ := H
  refine r_sld ((hp 1154).trans rfl) c3 ?_
  refine r_cv (bs := [.inl (scr.2 ((am_w (x3 + 1)).toNat)), .inl (scr.2 ((am_w (x3 + 2)).toNat)), .inl (scr.2 ((am_w (x3 + 3)).toNat))]) (st' := []) ((hp 1155).trans rfl) (hw.o (i := 0) (by decide) rfl) rfl rfl (Nat.le_of_ble_eq_true rfl) (Nat.le_of_ble_eq_true rfl) (am_R.post H (fun v g4 hq => ?_))
  obtain ⟨r5, rfl, hw, H⟩ := hq
  change am_R _ _ _ _ _ [.inl r5] _ _
  refine am_R.next ((hp 1158).trans rfl) rfl ?_
  refine am_R.next ((hp 1159).trans rfl) rfl ?_
  refine am_R.next ((hp 1160).trans rfl) rfl ?_
  refine am_R.next ((hp 1161).trans rfl) rfl ?_
  refine am_R.next ((hp 1162).trans rfl) rfl ?_
  obtain ⟨c6, H⟩ := H
  refine r_sld ((hp 1163).trans rfl) c6 ?_
  refine am_R.next ((hp 1164).trans rfl) rfl ?_
  refine am_R.next ((hp 1165).trans rfl) rfl ?_
  refine am_R.next ((hp 1166).trans rfl) rfl ?_
  refine am_R.next ((hp 1167).trans rfl) rfl ?_
  obtain ⟨c7, H⟩ := H
  refine r_sld ((hp 1168).trans rfl) c7 ?_
  refine am_R.next ((hp 1169).trans rfl) rfl ?_
  refine am_R.next ((hp 1170).trans rfl) rfl ?_
  refine am_R.next ((hp 1171).trans rfl) rfl ?_
  refine am_R.next ((hp 1172).trans rfl) rfl ?_
  obtain ⟨c8, H⟩ := H
  refine r_sld ((hp 1173).trans rfl) c8 ?_
  refine r_cv (bs := [.inl (scr.2 ((am_w (x3 + 1)).toNat)), .inl (scr.2 ((am_w (x3 + 2)).toNat)), .inl (scr.2 ((am_w (x3 + 3)).toNat))]) (st' := [.inl r5]) ((hp 1174).trans rfl) (hw.o (i := 109) (by decide) rfl) rfl rfl (Nat.le_of_ble_eq_true rfl) (Nat.le_of_ble_eq_true rfl) (am_R.post H (fun v g9 hq => ?_))
  obtain ⟨r10, rfl, hw, H⟩ := hq
  change am_R _ _ _ _ _ [.inl r10, .inl r5] _ _
  refine r_ic ((hp 1177).trans rfl) (fun c12 => ?_) (fun c12 => ?_)
  · have H := H.1 c12
    obtain ⟨y11, ey11⟩ : ∃ z : Int, z = am_w (x3 + 6) := ⟨_, rfl⟩
    have H := H y11 ey11
    refine am_R.next (lv' := [some (.inr (.inr (-1000))), some (.inr (.inr ((0 : Nat) : Int))), some (.inr (.inr ((109 : Nat) : Int))), some (.inl y11)]) (st' := []) (h' := g9) (pc' := 1361) ((hp 1358).trans rfl) (by rw [ey11]; rfl) ?_
    refine am_R.next ((hp 1361).trans rfl) rfl ?_
    exact H
  · have H := H.2 c12
    refine am_R.next ((hp 1180).trans rfl) rfl ?_
    exact r_zret ((hp 1181).trans rfl) (Or.inl rfl) H
theorem w_L_law_1182 {scr : Nat × (Nat → Int)} {d : Nat} {h : am_H} {Q : Option am_V → am_H → Prop} {x3 : Int} (hs : am_sc scr) (hw : wf h) (H : (0 ≤ (am_w (x3 + 1)) ∧ (am_w (x3 + 1)) < (scr.1 : Int)) ∧ ((0 ≤ (am_w (x3 + 2)) ∧ (am_w (x3 + 2)) < (scr.1 : Int)) ∧ ((0 ≤ (am_w (x3 + 3)) ∧ (am_w (x3 + 3)) < (scr.1 : Int)) ∧ ((0 ≤ (am_w (x3 + 4)) ∧ (am_w (x3 + 4)) < (scr.1 : Int)) ∧ (am_R (am_prog scr) d f_S_write 0 [some (.inr (.inr ((0 : Nat) : Int))), some (.inl (scr.2 ((am_w (x3 + 1)).toNat))), some (.inl (scr.2 ((am_w (x3 + 2)).toNat))), some (.inr (.inl (am_lor (am_lshl (scr.2 ((am_w (x3 + 3)).toNat)) 32) (am_land (scr.2 ((am_w (x3 + 4)).toNat)) 4294967295)))), none, none] [] h (fun v g5 => ∃ r6 : Int, v = some (.inr (.inl r6)) ∧ wf g5 ∧ ((0 ≤ (am_w (x3 + 1)) ∧ (am_w (x3 + 1)) < (scr.1 : Int)) ∧ ((0 ≤ (am_w (x3 + 2)) ∧ (am_w (x3 + 2)) < (scr.1 : Int)) ∧ ((0 ≤ (am_w (x3 + 3)) ∧ (am_w (x3 + 3)) < (scr.1 : Int)) ∧ ((0 ≤ (am_w (x3 + 4)) ∧ (am_w (x3 + 4)) < (scr.1 : Int)) ∧ (am_R (am_prog scr) d f_M_write 0 [some (.inr (.inr ((109 : Nat) : Int))), some (.inl (scr.2 ((am_w (x3 + 1)).toNat))), some (.inl (scr.2 ((am_w (x3 + 2)).toNat))), some (.inr (.inl (am_lor (am_lshl (scr.2 ((am_w (x3 + 3)).toNat)) 32) (am_land (scr.2 ((am_w (x3 + 4)).toNat)) 4294967295)))), none, none] [] g5 (fun v g11 => ∃ r12 : Int, v = some (.inr (.inl r12)) ∧ wf g11 ∧ ((r6 = r12 → (∀ y13 : Int, y13 = am_w (x3 + 6) → (am_R (am_prog scr) (d + 1) f_L_law 18 [some (.inr (.inr (-1000))), some (.inr (.inr ((0 : Nat) : Int))), some (.inr (.inr ((109 : Nat) : Int))), some (.inl y13)] [] g11 Q))) ∧ (¬ (r6 = r12) → (Q (some (.inl 0)) g11))))))))))))))) : am_R (am_prog scr) (d + 1) f_L_law 1182 [some (.inr (.inr (-1000))), some (.inr (.inr ((0 : Nat) : Int))), some (.inr (.inr ((109 : Nat) : Int))), some (.inl x3)] [] h Q := by
  have hp : ∀ k, (am_prog scr).1 f_L_law k = c_L_law scr k := fun _ => rfl
  refine am_R.next ((hp 1182).trans rfl) rfl ?_
  refine am_R.next ((hp 1183).trans rfl) rfl ?_
  refine am_R.next ((hp 1184).trans rfl) rfl ?_
  refine am_R.next ((hp 1185).trans rfl) rfl ?_
  refine am_R.next ((hp 1186).trans rfl) rfl ?_
  obtain ⟨c1, H⟩ := H
  refine r_sld ((hp 1187).trans rfl) c1 ?_
  refine am_R.next ((hp 1188).trans rfl) rfl ?_
  refine am_R.next ((hp 1189).trans rfl) rfl ?_
  refine am_R.next ((hp 1190).trans rfl) rfl ?_
  refine am_R.next ((hp 1191).trans rfl) rfl ?_
  obtain ⟨c2, H⟩ := H
  refine r_sld ((hp 1192).trans rfl) c2 ?_
  refine am_R.next ((hp 1193).trans rfl) rfl ?_
  refine am_R.next ((hp 1194).trans rfl) rfl ?_
  refine am_R.next ((hp 1195).trans rfl) rfl ?_
  refine am_R.next ((hp 1196).trans rfl) rfl ?_
  obtain ⟨c3, H⟩ := H
  refine r_sld ((hp 1197).trans rfl) c3 ?_
  refine am_R.next ((hp 1198).trans rfl) rfl ?_
  refine am_R.next ((hp 1199).trans rfl) rfl ?_
  refine am_R.next ((hp 1201).trans rfl) rfl ?_
  refine am_R.next ((hp 1202).trans rfl) rfl ?_
  refine am_R.next ((hp 1203).trans rfl) rfl ?_
  refine am_R.next ((hp 1204).trans rfl) rfl ?_
  refine am_R.next ((hp 1205).trans rfl) rfl ?_
  obtain ⟨c4, H⟩ := H
  refine r_sld ((hp 1206).trans rfl) c4 ?_
  refine am_R.next ((hp 1207).trans rfl) rfl ?_
  refine am_R.next ((hp 1208).trans rfl) rfl ?_
  refine am_R.next ((hp 1211).trans rfl) rfl ?_
  refine am_R.next ((hp 1212).trans rfl) rfl ?_
  refine r_cv (bs := [.inl (scr.2 ((am_w (x3 + 1)).toNat)), .inl (scr.2 ((am_w (x3 + 2)).toNat)), .inr (.inl (am_lor (am_lshl (scr.2 ((am_w (x3 + 3)).toNat)) 32) (am_land (scr.2 ((am_w (x3 + 4)).toNat)) 4294967295)))]) (st' := []) ((hp 1213).trans rfl) (hw.o (i := 0) (by decide) rfl) rfl rfl (Nat.le_of_ble_eq_true rfl) (Nat.le_of_ble_eq_true rfl) (am_R.post H (fun v g5 hq => ?_))
  obtain ⟨r6, rfl, hw, H⟩ := hq
  change am_R _ _ _ _ _ [.inr (.inl r6)] _ _
  refine am_R.next ((hp 1216).trans rfl) rfl ?_
  refine am_R.next ((hp 1217).trans rfl) rfl ?_
  refine am_R.next ((hp 1218).trans rfl) rfl ?_
  refine am_R.next ((hp 1219).trans rfl) rfl ?_
  refine am_R.next ((hp 1220).trans rfl) rfl ?_
  obtain ⟨c7, H⟩ := H
  refine r_sld ((hp 1221).trans rfl) c7 ?_
  refine am_R.next ((hp 1222).trans rfl) rfl ?_
  refine am_R.next ((hp 1223).trans rfl) rfl ?_
  refine am_R.next ((hp 1224).trans rfl) rfl ?_
  refine am_R.next ((hp 1225).trans rfl) rfl ?_
  obtain ⟨c8, H⟩ := H
  refine r_sld ((hp 1226).trans rfl) c8 ?_
  refine am_R.next ((hp 1227).trans rfl) rfl ?_
  refine am_R.next ((hp 1228).trans rfl) rfl ?_
  refine am_R.next ((hp 1229).trans rfl) rfl ?_
  refine am_R.next ((hp 1230).trans rfl) rfl ?_
  obtain ⟨c9, H⟩ := H
  refine r_sld ((hp 1231).trans rfl) c9 ?_
  refine am_R.next ((hp 1232).trans rfl) rfl ?_
  refine am_R.next ((hp 1233).trans rfl) rfl ?_
  refine am_R.next ((hp 1235).trans rfl) rfl ?_
  refine am_R.next ((hp 1236).trans rfl) rfl ?_
  refine am_R.next ((hp 1237).trans rfl) rfl ?_
  refine am_R.next ((hp 1238).trans rfl) rfl ?_
  refine am_R.next ((hp 1239).trans rfl) rfl ?_
  obtain ⟨c10, H⟩ := H
  refine r_sld ((hp 1240).trans rfl) c10 ?_
  refine am_R.next ((hp 1241).trans rfl) rfl ?_
  refine am_R.next ((hp 1242).trans rfl) rfl ?_
  refine am_R.next ((hp 1245).trans rfl) rfl ?_
  refine am_R.next ((hp 1246).trans rfl) rfl ?_
  refine r_cv (bs := [.inl (scr.2 ((am_w (x3 + 1)).toNat)), .inl (scr.2 ((am_w (x3 + 2)).toNat)), .inr (.inl (am_lor (am_lshl (scr.2 ((am_w (x3 + 3)).toNat)) 32) (am_land (scr.2 ((am_w (x3 + 4)).toNat)) 4294967295)))]) (st' := [.inr (.inl r6)]) ((hp 1247).trans rfl) (hw.o (i := 109) (by decide) rfl) rfl rfl (Nat.le_of_ble_eq_true rfl) (Nat.le_of_ble_eq_true rfl) (am_R.post H (fun v g11 hq => ?_))
  obtain ⟨r12, rfl, hw, H⟩ := hq
  change am_R _ _ _ _ _ [.inr (.inl r12), .inr (.inl r6)] _ _
  refine am_R.next ((hp 1250).trans rfl) rfl ?_
  refine r_if ((hp 1251).trans rfl) (fun c14 => ?_) (fun c14 => ?_)
  · have H := H.1 (lc_eqt c14)
    obtain ⟨y13, ey13⟩ : ∃ z : Int, z = am_w (x3 + 6) := ⟨_, rfl⟩
    have H := H y13 ey13
    refine am_R.next (lv' := [some (.inr (.inr (-1000))), some (.inr (.inr ((0 : Nat) : Int))), some (.inr (.inr ((109 : Nat) : Int))), some (.inl y13)]) (st' := []) (h' := g11) (pc' := 1361) ((hp 1358).trans rfl) (by rw [ey13]; rfl) ?_
    refine am_R.next ((hp 1361).trans rfl) rfl ?_
    exact H
  · have H := H.2 (lc_eqf c14)
    refine am_R.next ((hp 1254).trans rfl) rfl ?_
    exact r_zret ((hp 1255).trans rfl) (Or.inl rfl) H
theorem w_L_law_1256 {scr : Nat × (Nat → Int)} {d : Nat} {h : am_H} {Q : Option am_V → am_H → Prop} {x3 : Int} (hs : am_sc scr) (hw : wf h) (H : (0 ≤ (am_w (x3 + 1)) ∧ (am_w (x3 + 1)) < (scr.1 : Int)) ∧ ((0 ≤ (am_w (x3 + 2)) ∧ (am_w (x3 + 2)) < (scr.1 : Int)) ∧ (am_R (am_prog scr) d f_S_lists 0 [some (.inr (.inr ((0 : Nat) : Int))), some (.inl (scr.2 ((am_w (x3 + 1)).toNat))), some (.inl (scr.2 ((am_w (x3 + 2)).toNat))), none, none] [] h (fun v g3 => ∃ r4 : Int, v = some (.inl r4) ∧ wf g3 ∧ ((0 ≤ (am_w (x3 + 1)) ∧ (am_w (x3 + 1)) < (scr.1 : Int)) ∧ ((0 ≤ (am_w (x3 + 2)) ∧ (am_w (x3 + 2)) < (scr.1 : Int)) ∧ (am_R (am_prog scr) d f_M_lists 0 [some (.inr (.inr ((109 : Nat) : Int))), some (.inl (scr.2 ((am_w (x3 + 1)).toNat))), some (.inl (scr.2 ((am_w (x3 + 2)).toNat))), none, none, none] [] g3 (fun v g7 => ∃ r8 : Int, v = some (.inl r8) ∧ wf g7 ∧ ((r4 = r8 → (∀ y9 : Int, y9 = am_w (x3 + 6) → (am_R (am_prog scr) (d + 1) f_L_law 18 [some (.inr (.inr (-1000))), some (.inr (.inr ((0 : Nat) : Int))), some (.inr (.inr ((109 : Nat) : Int))), some (.inl y9)] [] g7 Q))) ∧ (¬ (r4 = r8) → (Q (some (.inl 0)) g7))))))))))) : am_R (am_prog scr) (d + 1) f_L_law 1256 [some (.inr (.inr (-1000))), some (.inr (.inr ((0 : Nat) : Int))), some (.inr (.inr ((109 : Nat) : Int))), some (.inl x3)] [] h Q := by
  have hp : ∀ k, (am_prog scr).1 f_L_law k = c_L_law scr k := fun _ => rfl
  refine am_R.next ((hp 1256).trans rfl) rfl ?_
  refine am_R.next ((hp 1257).trans rfl) rfl ?_
  refine am_R.next ((hp 1258).trans rfl) rfl ?_
  refine am_R.next ((hp 1259).trans rfl) rfl ?_
  refine am_R.next ((hp 1260).trans rfl) rfl ?_
  obtain ⟨c1, H⟩ := H
  refine r_sld ((hp 1261).trans rfl) c1 ?_
  refine am_R.next ((hp 1262).trans rfl) rfl ?_
  refine am_R.next ((hp 1263).trans rfl) rfl ?_
  refine am_R.next ((hp 1264).trans rfl) rfl ?_
  refine am_R.next ((hp 1265).trans rfl) rfl ?_
  obtain ⟨c2, H⟩ := H
  refine r_sld ((hp 1266).trans rfl) c2 ?_
  refine r_cv (bs := [.inl (scr.2 ((am_w (x3 + 1)).toNat)), .inl (scr.2 ((am_w (x3 + 2)).toNat))]) (st' := []) ((hp 1267).trans rfl) (hw.o (i := 0) (by decide) rfl) rfl rfl (Nat.le_of_ble_eq_true rfl) (Nat.le_of_ble_eq_true rfl) (am_R.post H (fun v g3 hq => ?_))
  obtain ⟨r4, rfl, hw, H⟩ := hq
  change am_R _ _ _ _ _ [.inl r4] _ _
  refine am_R.next ((hp 1270).trans rfl) rfl ?_
  refine am_R.next ((hp 1271).trans rfl) rfl ?_
  refine am_R.next ((hp 1272).trans rfl) rfl ?_
  refine am_R.next ((hp 1273).trans rfl) rfl ?_
  refine am_R.next ((hp 1274).trans rfl) rfl ?_
  obtain ⟨c5, H⟩ := H
  refine r_sld ((hp 1275).trans rfl) c5 ?_
  refine am_R.next ((hp 1276).trans rfl) rfl ?_
  refine am_R.next ((hp 1277).trans rfl) rfl ?_
  refine am_R.next ((hp 1278).trans rfl) rfl ?_
  refine am_R.next ((hp 1279).trans rfl) rfl ?_
  obtain ⟨c6, H⟩ := H
  refine r_sld ((hp 1280).trans rfl) c6 ?_
  refine r_cv (bs := [.inl (scr.2 ((am_w (x3 + 1)).toNat)), .inl (scr.2 ((am_w (x3 + 2)).toNat))]) (st' := [.inl r4]) ((hp 1281).trans rfl) (hw.o (i := 109) (by decide) rfl) rfl rfl (Nat.le_of_ble_eq_true rfl) (Nat.le_of_ble_eq_true rfl) (am_R.post H (fun v g7 hq => ?_))
  obtain ⟨r8, rfl, hw, H⟩ := hq
  change am_R _ _ _ _ _ [.inl r8, .inl r4] _ _
  refine r_ic ((hp 1284).trans rfl) (fun c10 => ?_) (fun c10 => ?_)
  · have H := H.1 c10
    obtain ⟨y9, ey9⟩ : ∃ z : Int, z = am_w (x3 + 6) := ⟨_, rfl⟩
    have H := H y9 ey9
    refine am_R.next (lv' := [some (.inr (.inr (-1000))), some (.inr (.inr ((0 : Nat) : Int))), some (.inr (.inr ((109 : Nat) : Int))), some (.inl y9)]) (st' := []) (h' := g7) (pc' := 1361) ((hp 1358).trans rfl) (by rw [ey9]; rfl) ?_
    refine am_R.next ((hp 1361).trans rfl) rfl ?_
    exact H
  · have H := H.2 c10
    refine am_R.next ((hp 1287).trans rfl) rfl ?_
    exact r_zret ((hp 1288).trans rfl) (Or.inl rfl) H
theorem w_L_law_1289 {scr : Nat × (Nat → Int)} {d : Nat} {h : am_H} {Q : Option am_V → am_H → Prop} {x3 : Int} (hs : am_sc scr) (hw : wf h) (H : (0 ≤ (am_w (x3 + 1)) ∧ (am_w (x3 + 1)) < (scr.1 : Int)) ∧ (am_R (am_prog scr) d f_S_image 0 [some (.inr (.inr ((0 : Nat) : Int))), some (.inl (scr.2 ((am_w (x3 + 1)).toNat)))] [] h (fun v g2 => ∃ r3 : Int, v = some (.inl r3) ∧ wf g2 ∧ ((0 ≤ (am_w (x3 + 1)) ∧ (am_w (x3 + 1)) < (scr.1 : Int)) ∧ (am_R (am_prog scr) d f_M_image 0 [some (.inr (.inr ((109 : Nat) : Int))), some (.inl (scr.2 ((am_w (x3 + 1)).toNat))), none] [] g2 (fun v g5 => ∃ r6 : Int, v = some (.inl r6) ∧ wf g5 ∧ ((r3 = r6 → (∀ y7 : Int, y7 = am_w (x3 + 6) → (am_R (am_prog scr) (d + 1) f_L_law 18 [some (.inr (.inr (-1000))), some (.inr (.inr ((0 : Nat) : Int))), some (.inr (.inr ((109 : Nat) : Int))), some (.inl y7)] [] g5 Q))) ∧ (¬ (r3 = r6) → (Q (some (.inl 0)) g5))))))))) : am_R (am_prog scr) (d + 1) f_L_law 1289 [some (.inr (.inr (-1000))), some (.inr (.inr ((0 : Nat) : Int))), some (.inr (.inr ((109 : Nat) : Int))), some (.inl x3)] [] h Q := by
  have hp : ∀ k, (am_prog scr).1 f_L_law k = c_L_law scr k := fun _ => rfl
  refine am_R.next ((hp 1289).trans rfl) rfl ?_
  refine am_R.next ((hp 1290).trans rfl) rfl ?_
  refine am_R.next ((hp 1291).trans rfl) rfl ?_
  refine am_R.next ((hp 1292).trans rfl) rfl ?_
  refine am_R.next ((hp 1293).trans rfl) rfl ?_
  obtain ⟨c1, H⟩ := H
  refine r_sld ((hp 1294).trans rfl) c1 ?_
  refine r_cv (bs := [.inl (scr.2 ((am_w (x3 + 1)).toNat))]) (st' := []) ((hp 1295).trans rfl) (hw.o (i := 0) (by decide) rfl) rfl rfl (Nat.le_of_ble_eq_true rfl) (Nat.le_of_ble_eq_true rfl) (am_R.post H (fun v g2 hq => ?_))
  obtain ⟨r3, rfl, hw, H⟩ := hq
  change am_R _ _ _ _ _ [.inl r3] _ _
  refine am_R.next ((hp 1298).trans rfl) rfl ?_
  refine am_R.next ((hp 1299).trans rfl) rfl ?_
  refine am_R.next ((hp 1300).trans rfl) rfl ?_
  refine am_R.next ((hp 1301).trans rfl) rfl ?_
  refine am_R.next ((hp 1302).trans rfl) rfl ?_
  obtain ⟨c4, H⟩ := H
  refine r_sld ((hp 1303).trans rfl) c4 ?_
  refine r_cv (bs := [.inl (scr.2 ((am_w (x3 + 1)).toNat))]) (st' := [.inl r3]) ((hp 1304).trans rfl) (hw.o (i := 109) (by decide) rfl) rfl rfl (Nat.le_of_ble_eq_true rfl) (Nat.le_of_ble_eq_true rfl) (am_R.post H (fun v g5 hq => ?_))
  obtain ⟨r6, rfl, hw, H⟩ := hq
  change am_R _ _ _ _ _ [.inl r6, .inl r3] _ _
  refine r_ic ((hp 1307).trans rfl) (fun c8 => ?_) (fun c8 => ?_)
  · have H := H.1 c8
    obtain ⟨y7, ey7⟩ : ∃ z : Int, z = am_w (x3 + 6) := ⟨_, rfl⟩
    have H := H y7 ey7
    refine am_R.next (lv' := [some (.inr (.inr (-1000))), some (.inr (.inr ((0 : Nat) : Int))), some (.inr (.inr ((109 : Nat) : Int))), some (.inl y7)]) (st' := []) (h' := g5) (pc' := 1361) ((hp 1358).trans rfl) (by rw [ey7]; rfl) ?_
    refine am_R.next ((hp 1361).trans rfl) rfl ?_
    exact H
  · have H := H.2 c8
    refine am_R.next ((hp 1310).trans rfl) rfl ?_
    exact r_zret ((hp 1311).trans rfl) (Or.inl rfl) H
theorem w_L_law_1312 {scr : Nat × (Nat → Int)} {d : Nat} {h : am_H} {Q : Option am_V → am_H → Prop} {x3 : Int} (hs : am_sc scr) (hw : wf h) (H : (0 ≤ (am_w (x3 + 1)) ∧ (am_w (x3 + 1)) < (scr.1 : Int)) ∧ (am_R (am_prog scr) d f_S_restore 0 [some (.inr (.inr ((0 : Nat) : Int))), some (.inl (scr.2 ((am_w (x3 + 1)).toNat)))] [] h (fun v g2 => ∃ r3 : Int, v = some (.inl r3) ∧ wf g2 ∧ ((0 ≤ (am_w (x3 + 1)) ∧ (am_w (x3 + 1)) < (scr.1 : Int)) ∧ (am_R (am_prog scr) d f_M_restore 0 [some (.inr (.inr ((109 : Nat) : Int))), some (.inl (scr.2 ((am_w (x3 + 1)).toNat))), none] [] g2 (fun v g5 => ∃ r6 : Int, v = some (.inl r6) ∧ wf g5 ∧ ((r3 = r6 → (∀ y7 : Int, y7 = am_w (x3 + 6) → (am_R (am_prog scr) (d + 1) f_L_law 18 [some (.inr (.inr (-1000))), some (.inr (.inr ((0 : Nat) : Int))), some (.inr (.inr ((109 : Nat) : Int))), some (.inl y7)] [] g5 Q))) ∧ (¬ (r3 = r6) → (Q (some (.inl 0)) g5))))))))) : am_R (am_prog scr) (d + 1) f_L_law 1312 [some (.inr (.inr (-1000))), some (.inr (.inr ((0 : Nat) : Int))), some (.inr (.inr ((109 : Nat) : Int))), some (.inl x3)] [] h Q := by
  have hp : ∀ k, (am_prog scr).1 f_L_law k = c_L_law scr k := fun _ => rfl
  refine am_R.next ((hp 1312).trans rfl) rfl ?_
  refine am_R.next ((hp 1313).trans rfl) rfl ?_
  refine am_R.next ((hp 1314).trans rfl) rfl ?_
  refine am_R.next ((hp 1315).trans rfl) rfl ?_
  refine am_R.next ((hp 1316).trans rfl) rfl ?_
  obtain ⟨c1, H⟩ := H
  refine r_sld ((hp 1317).trans rfl) c1 ?_
  refine r_cv (bs := [.inl (scr.2 ((am_w (x3 + 1)).toNat))]) (st' := []) ((hp 1318).trans rfl) (hw.o (i := 0) (by decide) rfl) rfl rfl (Nat.le_of_ble_eq_true rfl) (Nat.le_of_ble_eq_true rfl) (am_R.post H (fun v g2 hq => ?_))
  obtain ⟨r3, rfl, hw, H⟩ := hq
  change am_R _ _ _ _ _ [.inl r3] _ _
  refine am_R.next ((hp 1321).trans rfl) rfl ?_
  refine am_R.next ((hp 1322).trans rfl) rfl ?_
  refine am_R.next ((hp 1323).trans rfl) rfl ?_
  refine am_R.next ((hp 1324).trans rfl) rfl ?_
  refine am_R.next ((hp 1325).trans rfl) rfl ?_
  obtain ⟨c4, H⟩ := H
  refine r_sld ((hp 1326).trans rfl) c4 ?_
  refine r_cv (bs := [.inl (scr.2 ((am_w (x3 + 1)).toNat))]) (st' := [.inl r3]) ((hp 1327).trans rfl) (hw.o (i := 109) (by decide) rfl) rfl rfl (Nat.le_of_ble_eq_true rfl) (Nat.le_of_ble_eq_true rfl) (am_R.post H (fun v g5 hq => ?_))
  obtain ⟨r6, rfl, hw, H⟩ := hq
  change am_R _ _ _ _ _ [.inl r6, .inl r3] _ _
  refine r_ic ((hp 1330).trans rfl) (fun c8 => ?_) (fun c8 => ?_)
  · have H := H.1 c8
    obtain ⟨y7, ey7⟩ : ∃ z : Int, z = am_w (x3 + 6) := ⟨_, rfl⟩
    have H := H y7 ey7
    refine am_R.next (lv' := [some (.inr (.inr (-1000))), some (.inr (.inr ((0 : Nat) : Int))), some (.inr (.inr ((109 : Nat) : Int))), some (.inl y7)]) (st' := []) (h' := g5) (pc' := 1361) ((hp 1358).trans rfl) (by rw [ey7]; rfl) ?_
    refine am_R.next ((hp 1361).trans rfl) rfl ?_
    exact H
  · have H := H.2 c8
    refine am_R.next ((hp 1333).trans rfl) rfl ?_
    exact r_zret ((hp 1334).trans rfl) (Or.inl rfl) H
theorem w_L_law_1335 {scr : Nat × (Nat → Int)} {d : Nat} {h : am_H} {Q : Option am_V → am_H → Prop} {x3 : Int} (hs : am_sc scr) (hw : wf h) (H : (0 ≤ (am_w (x3 + 1)) ∧ (am_w (x3 + 1)) < (scr.1 : Int)) ∧ (am_R (am_prog scr) d f_S_count 0 [some (.inr (.inr ((0 : Nat) : Int))), some (.inl (scr.2 ((am_w (x3 + 1)).toNat)))] [] h (fun v g2 => ∃ r3 : Int, v = some (.inl r3) ∧ wf g2 ∧ ((0 ≤ (am_w (x3 + 1)) ∧ (am_w (x3 + 1)) < (scr.1 : Int)) ∧ (am_R (am_prog scr) d f_M_count 0 [some (.inr (.inr ((109 : Nat) : Int))), some (.inl (scr.2 ((am_w (x3 + 1)).toNat)))] [] g2 (fun v g5 => ∃ r6 : Int, v = some (.inl r6) ∧ wf g5 ∧ ((r3 = r6 → (∀ y7 : Int, y7 = am_w (x3 + 6) → (am_R (am_prog scr) (d + 1) f_L_law 18 [some (.inr (.inr (-1000))), some (.inr (.inr ((0 : Nat) : Int))), some (.inr (.inr ((109 : Nat) : Int))), some (.inl y7)] [] g5 Q))) ∧ (¬ (r3 = r6) → (Q (some (.inl 0)) g5))))))))) : am_R (am_prog scr) (d + 1) f_L_law 1335 [some (.inr (.inr (-1000))), some (.inr (.inr ((0 : Nat) : Int))), some (.inr (.inr ((109 : Nat) : Int))), some (.inl x3)] [] h Q := by
  have hp : ∀ k, (am_prog scr).1 f_L_law k = c_L_law scr k := fun _ => rfl
  refine am_R.next ((hp 1335).trans rfl) rfl ?_
  refine am_R.next ((hp 1336).trans rfl) rfl ?_
  refine am_R.next ((hp 1337).trans rfl) rfl ?_
  refine am_R.next ((hp 1338).trans rfl) rfl ?_
  refine am_R.next ((hp 1339).trans rfl) rfl ?_
  obtain ⟨c1, H⟩ := H
  refine r_sld ((hp 1340).trans rfl) c1 ?_
  refine r_cv (bs := [.inl (scr.2 ((am_w (x3 + 1)).toNat))]) (st' := []) ((hp 1341).trans rfl) (hw.o (i := 0) (by decide) rfl) rfl rfl (Nat.le_of_ble_eq_true rfl) (Nat.le_of_ble_eq_true rfl) (am_R.post H (fun v g2 hq => ?_))
  obtain ⟨r3, rfl, hw, H⟩ := hq
  change am_R _ _ _ _ _ [.inl r3] _ _
  refine am_R.next ((hp 1344).trans rfl) rfl ?_
  refine am_R.next ((hp 1345).trans rfl) rfl ?_
  refine am_R.next ((hp 1346).trans rfl) rfl ?_
  refine am_R.next ((hp 1347).trans rfl) rfl ?_
  refine am_R.next ((hp 1348).trans rfl) rfl ?_
  obtain ⟨c4, H⟩ := H
  refine r_sld ((hp 1349).trans rfl) c4 ?_
  refine r_cv (bs := [.inl (scr.2 ((am_w (x3 + 1)).toNat))]) (st' := [.inl r3]) ((hp 1350).trans rfl) (hw.o (i := 109) (by decide) rfl) rfl rfl (Nat.le_of_ble_eq_true rfl) (Nat.le_of_ble_eq_true rfl) (am_R.post H (fun v g5 hq => ?_))
  obtain ⟨r6, rfl, hw, H⟩ := hq
  change am_R _ _ _ _ _ [.inl r6, .inl r3] _ _
  refine r_ic ((hp 1353).trans rfl) (fun c8 => ?_) (fun c8 => ?_)
  · have H := H.1 c8
    obtain ⟨y7, ey7⟩ : ∃ z : Int, z = am_w (x3 + 6) := ⟨_, rfl⟩
    have H := H y7 ey7
    refine am_R.next (lv' := [some (.inr (.inr (-1000))), some (.inr (.inr ((0 : Nat) : Int))), some (.inr (.inr ((109 : Nat) : Int))), some (.inl y7)]) (st' := []) (h' := g5) (pc' := 1361) ((hp 1358).trans rfl) (by rw [ey7]; rfl) ?_
    refine am_R.next ((hp 1361).trans rfl) rfl ?_
    exact H
  · have H := H.2 c8
    refine am_R.next ((hp 1356).trans rfl) rfl ?_
    exact r_zret ((hp 1357).trans rfl) (Or.inl rfl) H
