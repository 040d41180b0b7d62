/-! small calls, both sides -/
def q_sleeper (a : Nat → Int) (s w : Int) : Int := if 0 ≤ s ∧ s < a 4 then (if w = 0 then a (16 + s).toNat else if w = 1 then a (22 + s).toNat else -2) else -2
def q_would (a : Nat → Int) (f : Nat → (Nat → Int) → Int) (s : Int) : Int := if 0 ≤ s ∧ s < a 4 then wouldS a f (a 28) (stA a) s else -99000002
def q_by (a : Nat → Int) (f : Nat → (Nat → Int) → Int) (v w : Int) : Int := if 0 ≤ w ∧ w ≤ 2 then (if whyBA a v = 0 then (if w = 0 then snorS a f (a 28) (stA a) (v - 1) else if w = 1 then soundI (btA a f (v - 1)) else actI (btA a f (v - 1))) else -5) else -2
def q_count (a : Nat → Int) (tp w : Int) : Int := if w = 0 then a 1 else if w = 1 then a 4 else if w = 2 then a 2 else if w = 3 then a 3 else if w = 4 then (if a 4 = 0 then -1 else a 12) else if w = 5 then a 13 else if w = 6 then a 14 else if w = 7 then (if a 14 = a 3 then 1 else if a 15 = 1 then 2 else 0) else if w = 8 then a 28 else if w = 9 then a 29 else if w = 10 then a 30 else if w = 11 then tp else if w = 12 then a 0 else -1
def cutS (v s : Int) : Int := if s = 0 then Int.bmod (am_w v) 256 else if s = 1 then Int.bmod (am_w v) 65536 else if s = 2 then am_w v else v
def imgA (a : Nat → Int) (i : Nat) (j : Nat) : Int := a (1112 * (i + 1) + j)
def resA (a : Nat → Int) (i : Nat) (j : Nat) : Int := if j = 30 then 0 else if j < 1112 then imgA a i j else a j
def imsA (a : Nat → Int) (i : Nat) (j : Nat) : Int := if 1112 * (i + 1) ≤ j ∧ j < 1112 * (i + 1) + 1112 then a (j - 1112 * (i + 1)) else a j
section SM
variable {scr : Nat × (Nat → Int)} {d : Nat} {h : am_H} {Q : Option am_V → am_H → Prop} {a : Nat → Int} {f : Nat → (Nat → Int) → Int} {B : Int}
theorem k_Mfault {w : Int} (hs : am_sc scr) (hw : wf h) (H : ∀ g, wf g → fr [] [(109, 0)] h g → Q (some (.inl (if w = 0 then h.2.2.2 109 13 else if w = 1 then h.2.2.2 109 14 else -1))) g) : am_R (am_prog scr) d f_M_fault 0 [some (.inr (.inr ((109 : Nat) : Int))), some (.inl (w))] [] h Q := by
  refine w_M_fault_0 hs hw (fun g1 q1 => ?_)
  have HH := H g1 (by rw [q1]; exact (put0 hw).1) (by rw [q1]; exact (put0 hw).2)
  have e1 : g1.2.2.2 109 13 = h.2.2.2 109 13 := by rw [q1]; exact put_ne (by omega)
  have e2 : g1.2.2.2 109 14 = h.2.2.2 109 14 := by rw [q1]; exact put_ne (by omega)
  rw [e1, e2]
  refine ⟨fun c => ⟨fun c2 => ?_, fun c2 => ?_⟩, fun c => ?_⟩
  · rw [if_neg c, if_neg c2] at HH; exact HH
  · rw [if_neg c, if_pos c2] at HH; exact HH
  · rw [if_pos c] at HH; exact HH
theorem k_Sfault {w : Int} (hs : am_sc scr) (hw : wf h) (H : Q (some (.inl (if w = 0 then h.2.2.2 0 2 else if w = 1 then h.2.2.2 0 3 else -1))) h) : am_R (am_prog scr) d f_S_fault 0 [some (.inr (.inr (((0) : Nat) : Int))), some (.inl (w))] [] h Q := by
  refine w_S_fault_0 hs hw ⟨fun c => ⟨fun c2 => ?_, fun c2 => ?_⟩, fun c => ?_⟩
  · rw [if_neg c, if_neg c2] at H; exact H
  · rw [if_neg c, if_pos c2] at H; exact H
  · rw [if_pos c] at H; exact H
theorem k_Msleeper {s w : Int} (hs : am_sc scr) (hw : wf h) (ha : h.2.2.2 110 = a) (r : rok a f B) (H : ∀ g, wf g → fr [] [(109, 0)] h g → Q (some (.inl (q_sleeper a s w))) g) : am_R (am_prog scr) (d + 2) f_M_sleeper 0 [some (.inr (.inr ((109 : Nat) : Int))), some (.inl (s)), some (.inl (w))] [] h Q := by
  have h4 := r.1.1
  refine w_M_sleeper_0 hs hw (fun g1 q1 => ?_)
  have w1 : wf g1 := by rw [q1]; exact (put0 hw).1
  have f0 : fr [] [(109, 0)] h g1 := by rw [q1]; exact (put0 hw).2
  have a1 : g1.2.2.2 110 = a := (f0.c 110 (by simp) (by decide)).trans ha
  have HH := H g1 w1 f0
  unfold q_sleeper at HH
  refine k_isSleeper hs w1 (by rw [a1]; exact h4) (fun z hz => ⟨_, rfl, w1, ?_⟩)
  rw [a1] at hz ⊢
  refine ⟨fun c => ⟨fun c2 => ⟨fun c3 => ?_, fun c3 => ?_⟩, fun c2 => ?_⟩, fun c => ?_⟩
  · rw [if_pos (by omega), if_neg c2, if_neg c3] at HH; exact HH
  · rw [if_pos (by omega), if_neg c2, if_pos c3] at HH
    rw [am_w_id (by omega) (by omega)]; exact ⟨by omega, HH⟩
  · rw [if_pos (by omega), if_pos c2] at HH
    rw [am_w_id (by omega) (by omega)]; exact ⟨by omega, HH⟩
  · rw [if_neg (by omega)] at HH; exact HH
theorem k_Mwould {s : Int} (hs : am_sc scr) (hw : wf h) (ha : h.2.2.2 110 = a) (r : rok a f B) (H : ∀ g, wf g → fr [114, 115] [(109, 0)] h g → Q (some (.inl (q_would a f s))) g) : am_R (am_prog scr) (d + 3) f_M_would 0 [some (.inr (.inr ((109 : Nat) : Int))), some (.inl (s))] [] h Q := by
  have h4 := r.1.1
  refine w_M_would_0 hs hw (fun g1 q1 => ?_)
  have w1 : wf g1 := by rw [q1]; exact (put0 hw).1
  have f0 : fr [] [(109, 0)] h g1 := by rw [q1]; exact (put0 hw).2
  have a1 : g1.2.2.2 110 = a := (f0.c 110 (by simp) (by decide)).trans ha
  have f1 : fr [114, 115] [(109, 0)] h g1 := f0.mono (by simp) (by decide)
  unfold q_would at H
  refine k_isSleeper hs w1 (by rw [a1]; exact h4) (fun z hz => ⟨_, rfl, w1, fun c => ?_, fun c => ?_⟩)
  · rw [a1] at hz
    rw [if_neg (by omega)] at H; exact H g1 w1 f1
  · rw [a1] at hz
    rw [if_pos (by omega)] at H
    refine k_standNowA hs w1 a1 r ⟨_, rfl, w1, ?_⟩
    rw [a1]
    exact k_wouldOf hs w1 a1 r.1 (by omega) r.st.1 r.2.2.2.1 (fun g wg fg => ⟨_, rfl, wg, H g wg (f1.trans (fg.mono (by decide) (by simp)))⟩)
theorem k_Mby {v w : Int} (hs : am_sc scr) (hw : wf h) (ha : h.2.2.2 110 = a) (r : rok a f B) (hv : am_w v = v) (H : ∀ g, wf g → fr [114, 115] [(109, 0)] h g → Q (some (.inl (q_by a f v w))) g) : am_R (am_prog scr) (d + 5) f_M_by 0 [some (.inr (.inr ((109 : Nat) : Int))), some (.inl (v)), some (.inl (w)), none] [] h Q := by
  have h4 := r.1.1
  have hr := am_w_rg hv
  refine w_M_by_0 hs hw (fun g1 q1 => ?_)
  have w1 : wf g1 := by rw [q1]; exact (put0 hw).1
  have f0 : fr [] [(109, 0)] h g1 := by rw [q1]; exact (put0 hw).2
  have a1 : g1.2.2.2 110 = a := (f0.c 110 (by simp) (by decide)).trans ha
  have f1 : fr [114, 115] [(109, 0)] h g1 := f0.mono (by simp) (by decide)
  unfold q_by at H
  refine k_within hs w1 ⟨_, rfl, w1, fun c => ?_, fun c => ?_⟩
  · rw [i0, Decidable.not_not] at c
    rw [if_pos c] at H
    refine k_standNowA hs w1 a1 r ⟨_, rfl, w1, ?_⟩
    refine k_whyBeatA hs w1 a1 r hr ⟨_, rfl, w1, fun c2 => ?_, fun c2 => ?_⟩
    · rw [if_pos c2] at H
      have c3 := whyBA_0 c2
      have st := r.st
      have r3 := r.2.2.1
      rw [am_w_id (x := v - 1) (by omega) (by omega)]
      refine ⟨fun c4 => ?_, fun c4 => ?_⟩
      · rw [if_neg c4] at H
        refine k_standNowA hs w1 a1 r ⟨_, rfl, w1, ?_⟩
        rw [a1]
        refine k_beatTo hs w1 a1 r.1 st.1 (by rw [st.2.1]; have : a 14 ≠ a 3 := fun e => c3.2 (Or.inl e); omega) r.2.2.2.1 (fun g wg fg => ⟨_, rfl, wg, ?_⟩)
        have hb := (btA_ok r c3.2 (v - 1)).1
        have ff := f1.trans (fg.mono (M := [114, 115]) (G := [(109, 0)]) (by decide) (by simp))
        have HH := H g wg ff
        refine ⟨fun c5 => ?_, fun c5 => ?_⟩
        · rw [if_neg c5] at HH
          have : 0 ≤ btA a f (v - 1) ∧ btA a f (v - 1) < 400 := by omega
          exact k_actIn hs wg this ⟨_, rfl, wg, HH⟩
        · rw [if_pos c5] at HH
          have : 0 ≤ btA a f (v - 1) ∧ btA a f (v - 1) < 400 := by omega
          exact k_soundIn hs wg this ⟨_, rfl, wg, HH⟩
      · rw [if_pos c4] at H
        refine k_standNowA hs w1 a1 r ⟨_, rfl, w1, ?_⟩
        rw [a1]
        exact k_snorer hs w1 a1 r.1 st.1 r.2.2.2.1 (fun g wg fg => ⟨_, rfl, wg, H g wg (f1.trans (fg.mono (by decide) (by simp)))⟩)
    · rw [if_neg c2] at H; exact H g1 w1 f1
  · rw [i0] at c
    rw [if_neg c] at H; exact H g1 w1 f1
theorem k_Mcount {w : Int} (hs : am_sc scr) (hw : wf h) (ha : h.2.2.2 110 = a) (r : rok a f B) (H : ∀ g, wf g → fr [] [(109, 0)] h g → Q (some (.inl (q_count a (h.2.2.2 109 5) w))) g) : am_R (am_prog scr) (d + 2) f_M_count 0 [some (.inr (.inr ((109 : Nat) : Int))), some (.inl (w))] [] h Q := by
  refine w_M_count_0 hs hw (fun g1 q1 => ?_)
  have w1 : wf g1 := by rw [q1]; exact (put0 hw).1
  have f0 : fr [] [(109, 0)] h g1 := by rw [q1]; exact (put0 hw).2
  have a1 : g1.2.2.2 110 = a := (f0.c 110 (by simp) (by decide)).trans ha
  have HH := H g1 w1 f0
  have e5 : g1.2.2.2 109 5 = h.2.2.2 109 5 := by rw [q1]; exact put_ne (by omega)
  unfold q_count at HH
  rw [a1, e5]
  refine ⟨fun c => ?_, fun c => ?_, fun c => ?_, fun c => ?_, fun c => ?_, fun c => ?_, fun c => ?_, fun c => ?_, fun c => ?_, fun c => ?_, fun c => ?_, fun c => ?_, fun c => ?_, fun c => ?_⟩
  · subst c; exact HH
  · subst c; exact HH
  · subst c; exact HH
  · subst c; exact HH
  · subst c
    refine k_lastNow hs w1 ⟨_, rfl, w1, ?_⟩
    rw [a1]; exact HH
  · subst c; exact HH
  · subst c; exact HH
  · subst c
    have st := r.st
    refine k_standNowA hs w1 a1 r ⟨_, rfl, w1, ?_⟩
    refine k_hasEnded hs w1 st.1 ⟨_, rfl, w1, ?_⟩
    rw [a1, st.2.1]
    have HH : Q (some (.inl (if a 14 = a 3 then 1 else if a 15 = 1 then 2 else 0))) g1 := HH
    refine ⟨fun c => ⟨fun c2 => ?_, fun c2 => ?_⟩, fun c => ?_⟩
    · rw [i0] at c; rw [if_neg c, if_neg c2] at HH; exact HH
    · rw [i0] at c; rw [if_neg c, if_pos c2] at HH; exact HH
    · rw [i0, Decidable.not_not] at c; rw [if_pos c] at HH; exact HH
  · subst c; exact HH
  · subst c; exact HH
  · subst c; exact HH
  · subst c; exact HH
  · subst c; exact HH
  · obtain ⟨c0, c1, c2, c3, c4, c5, c6, c7, c8, c9, c10, c11, c12⟩ := c
    rw [if_neg c0, if_neg c1, if_neg c2, if_neg c3, if_neg c4, if_neg c5, if_neg c6, if_neg c7, if_neg c8, if_neg c9, if_neg c10, if_neg c11, if_neg c12] at HH
    exact HH
theorem k_cut {v s : Int} (hs : am_sc scr) (hw : wf h) (H : Q (some (.inr (.inl (cutS v s)))) h) : am_R (am_prog scr) d f_M_cut 0 [some (.inr (.inl (v))), none, some (.inl (s))] [] h Q := by
  unfold cutS at H
  refine w_M_cut_0 hs hw ⟨fun c => ⟨fun c2 => ⟨fun c3 => ?_, fun c3 => ?_⟩, fun c2 => ?_⟩, fun c => ?_⟩
  · rw [if_neg c, if_neg c2, if_neg c3] at H; exact H
  · rw [if_neg c, if_neg c2, if_pos c3] at H; exact H
  · rw [if_neg c, if_pos c2] at H; exact H
  · rw [if_pos c] at H; exact H
theorem k_Mnumbers {t s n : Int} (hs : am_sc scr) (hw : wf h) (H : ∀ g, wf g → fr [130, 131, 132] [(109, 0)] h g → ((0 ≤ t ∧ t ≤ 3) ∧ (0 ≤ s ∧ s ≤ 3) ∧ (0 ≤ n ∧ n ≤ 40) → (∀ j, g.2.2.2 130 j = if j = t.toNat then s else h.2.2.2 130 j) ∧ (∀ j, g.2.2.2 131 j = if j = t.toNat then n else h.2.2.2 131 j) ∧ (∀ j, g.2.2.2 132 j = if 40 * t.toNat ≤ j ∧ j < 40 * t.toNat + n.toNat then 0 else h.2.2.2 132 j)) → (¬ ((0 ≤ t ∧ t ≤ 3) ∧ (0 ≤ s ∧ s ≤ 3) ∧ (0 ≤ n ∧ n ≤ 40)) → fr [] [(109, 0)] h g) → Q (some (.inl (if (0 ≤ t ∧ t ≤ 3) ∧ (0 ≤ s ∧ s ≤ 3) then (if 0 ≤ n ∧ n ≤ 40 then 0 else -3) else -2))) g) : am_R (am_prog scr) (d + 1) f_M_numbers 0 [some (.inr (.inr ((109 : Nat) : Int))), some (.inl (t)), some (.inl (s)), some (.inl (n)), none] [] h Q := by
  refine w_M_numbers_0 hs hw (fun g1 q1 => ?_)
  have w1 : wf g1 := by rw [q1]; exact (put0 hw).1
  have f0 : fr [] [(109, 0)] h g1 := by rw [q1]; exact (put0 hw).2
  have f1 : fr [130, 131, 132] [(109, 0)] h g1 := f0.mono (by simp) (by decide)
  refine k_within hs w1 ⟨_, rfl, w1, fun c => ?_, fun c => ?_⟩
  · rw [i0] at c
    have HH := H g1 w1 f1 (fun q => absurd q.1 c) (fun _ => f0)
    rw [if_neg (fun q => c q.1)] at HH; exact HH
  · rw [i0, Decidable.not_not] at c
    refine k_within hs w1 ⟨_, rfl, w1, fun c2 => ?_, fun c2 => ?_⟩
    · rw [i0, Decidable.not_not] at c2
      refine k_within hs w1 ⟨_, rfl, w1, fun c3 => ⟨by omega, fun g2 q2 => ⟨by omega, fun g3 q3 => ?_⟩⟩, fun c3 => ?_⟩
      · rw [i0, Decidable.not_not] at c3
        rw [if_pos ⟨c, c2⟩, if_pos c3] at H
        have w3 : wf g3 := by rw [q3, q2]; exact (w1.pa (by decide +kernel)).pa (by decide +kernel)
        have f3 : fr [130, 131, 132] [(109, 0)] h g3 := by rw [q3, q2]; exact (f1.put (Or.inl (by decide))).put (Or.inl (by decide))
        have en : n = (n.toNat : Int) := by omega
        rw [en]
        refine down (n := n.toNat) (I := fillI g3 132 (40 * t.toNat) (fun _ => 0)) (R := fun i g => am_R (am_prog scr) (d + 1) f_M_numbers 64 [some (.inr (.inr ((109 : Nat) : Int))), some (.inl (t)), some (.inl (s)), some (.inl ((n.toNat : Int))), some (.inl ((i : Int)))] [] g Q) ?_ ?_ n.toNat 0 g3 (by omega) (fillI.zero w3)
        · intro g hI
          refine w_M_numbers_64 hs hI.1 ⟨fun _ => ?_, fun c => by omega⟩
          refine H g hI.1 (f3.trans (hI.2.1.mono (by decide) (by simp))) (fun _ => ⟨fun j => ?_, fun j => ?_, fun j => ?_⟩) (fun q => absurd ⟨c, c2, c3⟩ q)
          · rw [hI.other 130 (by omega), q3, put_c (by decide), q2]
            simp only [put_at, true_and]
            rw [f0.c 130 (by simp) (by decide)]
          · rw [hI.other 131 (by omega), q3, q2]
            simp only [put_at, true_and]
            rw [if_neg (show ¬ ((131 : Nat) = 130 ∧ j = t.toNat) by omega), f0.c 131 (by simp) (by decide)]
          · rw [hI.2.2 j, q3, put_c (by decide), q2, put_c (by decide), f0.c 132 (by simp) (by decide)]
        · intro i g hi hI k
          refine w_M_numbers_64 hs hI.1 ⟨fun c => by omega, fun c4 => ?_⟩
          have e40 : am_w (am_w (40 * t) + (i : Int)) = 40 * t + (i : Int) := by simp (disch := omega) only [am_w_id, am_W_id]
          rw [e40]
          refine ⟨by omega, fun g4 q4 y hy => ?_⟩
          rw [am_w_id (by omega) (by omega)] at hy
          subst hy
          refine k g4 ?_
          rw [q4]
          exact hI.put (by decide +kernel) (by omega) rfl
      · rw [i0] at c3
        have HH := H g1 w1 f1 (fun q => absurd q.2.2 c3) (fun _ => f0)
        rw [if_pos ⟨c, c2⟩, if_neg c3] at HH; exact HH
    · rw [i0] at c2
      have HH := H g1 w1 f1 (fun q => absurd q.2.1 c2) (fun _ => f0)
      rw [if_neg (fun q => c2 q.2)] at HH; exact HH
theorem k_Mwrite {t i v : Int} (hs : am_sc scr) (hw : wf h) (hn : (0 ≤ t ∧ t ≤ 3) → 0 ≤ h.2.2.2 131 t.toNat ∧ h.2.2.2 131 t.toNat ≤ 40) (H : ∀ g, wf g → fr [132] [(109, 0)] h g → (∀ j, g.2.2.2 132 j = if ((0 ≤ t ∧ t ≤ 3) ∧ h.2.2.2 130 t.toNat ≠ -1 ∧ (0 ≤ i ∧ i < h.2.2.2 131 t.toNat)) ∧ j = 40 * t.toNat + i.toNat then cutS v (h.2.2.2 130 t.toNat) else h.2.2.2 132 j) → Q (some (.inr (.inl (if 0 ≤ t ∧ t ≤ 3 then (if h.2.2.2 130 t.toNat = -1 then -6 else if 0 ≤ i ∧ i < h.2.2.2 131 t.toNat then cutS v (h.2.2.2 130 t.toNat) else -7) else -2)))) g) : am_R (am_prog scr) (d + 2) f_M_write 0 [some (.inr (.inr ((109 : Nat) : Int))), some (.inl (t)), some (.inl (i)), some (.inr (.inl (v))), none, none] [] h Q := by
  refine w_M_write_0 hs hw (fun g1 q1 => ?_)
  have w1 : wf g1 := by rw [q1]; exact (put0 hw).1
  have f0 : fr [] [(109, 0)] h g1 := by rw [q1]; exact (put0 hw).2
  have f1 : fr [132] [(109, 0)] h g1 := f0.mono (by simp) (by decide)
  have e130 := f0.c 130 (by simp) (by decide)
  have e131 := f0.c 131 (by simp) (by decide)
  have e132 := f0.c 132 (by simp) (by decide)
  refine k_noTray hs w1 ⟨_, rfl, w1, ?_⟩
  rw [e130]
  refine ⟨fun c2 => ?_, fun c2 => ?_⟩
  · have c3 : 0 ≤ t ∧ t ≤ 3 := by
      apply Decidable.byContradiction; intro q; rw [if_neg q] at c2; omega
    rw [if_pos c3] at c2
    have c4 : h.2.2.2 130 t.toNat ≠ -1 := by
      intro q; rw [if_pos q] at c2; omega
    have hn := hn c3
    refine ⟨by omega, ?_⟩
    rw [e131, am_w_id (by omega) (by omega)]
    refine k_within hs w1 ⟨_, rfl, w1, fun c5 => ⟨by omega, ?_⟩, fun c5 => ?_⟩
    · rw [i0, Decidable.not_not] at c5
      rw [e130]
      refine k_cut hs w1 ⟨_, rfl, w1, ?_⟩
      have e40 : am_w (am_w (40 * t) + i) = 40 * t + i := by simp (disch := omega) only [am_w_id, am_W_id]
      rw [e40]
      refine ⟨by omega, fun g2 q2 => ⟨by omega, ?_⟩⟩
      have HH := H g2 (by rw [q2]; exact w1.pa (by decide +kernel)) (by rw [q2]; exact f1.put (Or.inl (by decide))) (fun j => by
        rw [q2]
        simp only [put_at, true_and]
        rw [e132]
        by_cases q : j = (40 * t + i).toNat
        · rw [if_pos q, if_pos ⟨⟨c3, c4, by omega⟩, by omega⟩]
        · rw [if_neg q, if_neg (by omega)])
      rw [if_pos c3, if_neg c4, if_pos (by omega)] at HH
      have e : g2.2.2.2 132 (40 * t + i).toNat = cutS v (h.2.2.2 130 t.toNat) := by rw [q2]; exact put_eq
      rw [e]; exact HH
    · rw [i0] at c5
      have HH := H g1 w1 f1 (fun j => by rw [e132, if_neg (by omega)])
      rw [if_pos c3, if_neg c4, if_neg (by omega)] at HH; exact HH
  · by_cases c3 : 0 ≤ t ∧ t ≤ 3
    · rw [if_pos c3] at c2 ⊢
      by_cases c4 : h.2.2.2 130 t.toNat = -1
      · have HH := H g1 w1 f1 (fun j => by rw [e132, if_neg (fun q => q.1.2.1 c4)])
        rw [if_pos c3, if_pos c4] at HH
        rw [if_pos c4]; exact HH
      · rw [if_neg c4] at c2; omega
    · have HH := H g1 w1 f1 (fun j => by rw [e132, if_neg (fun q => c3 q.1.1)])
      rw [if_neg c3] at HH
      rw [if_neg c3]; exact HH
theorem k_Mimage {i : Int} (hs : am_sc scr) (hw : wf h) (ha : h.2.2.2 110 = a) (H : ∀ g, wf g → fr [110, 111] [(109, 0)] h g → (0 ≤ i ∧ i ≤ 1 → g.2.2.2 110 = imsA a i.toNat ∧ ∀ j, g.2.2.2 111 j = if j = i.toNat then 1 else h.2.2.2 111 j) → (¬ (0 ≤ i ∧ i ≤ 1) → fr [] [(109, 0)] h g) → Q (some (.inl (if 0 ≤ i ∧ i ≤ 1 then 0 else -2))) g) : am_R (am_prog scr) (d + 1) f_M_image 0 [some (.inr (.inr ((109 : Nat) : Int))), some (.inl (i)), none] [] h Q := by
  refine w_M_image_0 hs hw (fun g1 q1 => ?_)
  have w1 : wf g1 := by rw [q1]; exact (put0 hw).1
  have f0 : fr [] [(109, 0)] h g1 := by rw [q1]; exact (put0 hw).2
  have f1 : fr [110, 111] [(109, 0)] h g1 := f0.mono (by simp) (by decide)
  have a1 : g1.2.2.2 110 = a := (f0.c 110 (by simp) (by decide)).trans ha
  refine k_within hs w1 ⟨_, rfl, w1, fun c => ?_, fun c => ?_⟩
  · rw [i0, Decidable.not_not] at c
    rw [if_pos c] at H
    refine down (n := 1112) (I := fillI g1 110 (1112 * (i.toNat + 1)) (fun j => a (j - 1112 * (i.toNat + 1)))) (R := fun k g => am_R (am_prog scr) (d + 1) f_M_image 20 [some (.inr (.inr ((109 : Nat) : Int))), some (.inl (i)), some (.inl ((k : Int)))] [] g Q) ?_ ?_ 1112 0 g1 (by omega) (fillI.zero w1)
    · intro g hI
      refine w_M_image_20 hs hI.1 ⟨fun _ => ⟨by omega, fun g2 q2 => ?_⟩, fun c => by omega⟩
      refine H g2 (by rw [q2]; exact hI.1.pa (by decide +kernel)) (by rw [q2]; exact (f1.trans (hI.2.1.mono (by decide) (by simp))).put (Or.inl (by decide))) (fun _ => ⟨?_, fun j => ?_⟩) (fun q => absurd c q)
      · rw [q2, put_c (by decide)]
        funext j
        rw [hI.2.2 j, a1]
        rfl
      · rw [q2]
        simp only [put_at, true_and]
        rw [hI.other 111 (by omega), f0.c 111 (by simp) (by decide)]
    · intro k g hk hI kk
      refine w_M_image_20 hs hI.1 ⟨fun c => by omega, fun c4 => ?_⟩
      have e : am_w (am_w (1112 * am_w (i + 1)) + (k : Int)) = 1112 * (i + 1) + (k : Int) := by
        rw [am_w_id (x := i + 1) (by omega) (by omega), am_w_id (x := 1112 * (i + 1)) (by omega) (by omega), am_w_id (by omega) (by omega)]
      rw [e]
      refine ⟨by omega, by omega, fun g4 q4 y hy => ?_⟩
      rw [am_w_id (by omega) (by omega)] at hy
      subst hy
      refine kk g4 ?_
      rw [q4]
      refine hI.put (by decide +kernel) (by omega) ?_
      rw [hI.2.2 _, if_neg (by omega), a1]
      exact cg a (by omega)
  · rw [i0] at c
    have HH := H g1 w1 f1 (fun q => absurd q c) (fun _ => f0)
    rw [if_neg c] at HH; exact HH
theorem k_Mrestore {i : Int} (hs : am_sc scr) (hw : wf h) (ha : h.2.2.2 110 = a) (H : ∀ g, wf g → fr [110] [(109, 0)] h g → g.2.2.2 110 = (if (0 ≤ i ∧ i ≤ 1) ∧ h.2.2.2 111 i.toNat ≠ 0 then resA a i.toNat else a) → Q (some (.inl (if 0 ≤ i ∧ i ≤ 1 then (if h.2.2.2 111 i.toNat = 0 then -5 else 0) else -2))) g) : am_R (am_prog scr) (d + 1) f_M_restore 0 [some (.inr (.inr ((109 : Nat) : Int))), some (.inl (i)), none] [] h Q := by
  refine w_M_restore_0 hs hw (fun g1 q1 => ?_)
  have w1 : wf g1 := by rw [q1]; exact (put0 hw).1
  have f0 : fr [] [(109, 0)] h g1 := by rw [q1]; exact (put0 hw).2
  have f1 : fr [110] [(109, 0)] h g1 := f0.mono (by simp) (by decide)
  have a1 : g1.2.2.2 110 = a := (f0.c 110 (by simp) (by decide)).trans ha
  refine k_within hs w1 ⟨_, rfl, w1, fun c => ?_, fun c => ?_⟩
  · rw [i0, Decidable.not_not] at c
    rw [if_pos c] at H
    rw [f0.c 111 (by simp) (by decide)]
    refine ⟨by omega, fun c2 => ?_, fun c2 => ?_⟩
    · rw [if_neg c2, if_pos ⟨c, c2⟩] at H
      refine down (n := 1112) (I := fillI g1 110 0 (fun j => imgA a i.toNat j)) (R := fun k g => am_R (am_prog scr) (d + 1) f_M_restore 32 [some (.inr (.inr ((109 : Nat) : Int))), some (.inl (i)), some (.inl ((k : Int)))] [] g Q) ?_ ?_ 1112 0 g1 (by omega) (fillI.zero w1)
      · intro g hI
        refine w_M_restore_32 hs hI.1 ⟨fun _ g2 q2 => ?_, fun c => by omega⟩
        refine H g2 (by rw [q2]; exact hI.1.pa (by decide +kernel)) (by rw [q2]; exact (f1.trans (hI.2.1.mono (by decide) (by simp))).put (Or.inl (by decide))) ?_
        rw [q2]
        funext j
        simp only [put_at, true_and]
        rw [hI.2.2 j, a1]
        unfold resA
        by_cases q : j = 30
        · rw [if_pos q, if_pos q]
        · rw [if_neg q, if_neg q]
          by_cases q2 : j < 1112
          · rw [if_pos (by omega), if_pos q2]
          · rw [if_neg (by omega), if_neg q2]
      · intro k g hk hI kk
        refine w_M_restore_32 hs hI.1 ⟨fun c => by omega, fun c4 => ?_⟩
        have e : am_w (am_w (1112 * am_w (i + 1)) + (k : Int)) = 1112 * (i + 1) + (k : Int) := by
          rw [am_w_id (x := i + 1) (by omega) (by omega), am_w_id (x := 1112 * (i + 1)) (by omega) (by omega), am_w_id (by omega) (by omega)]
        rw [e]
        refine ⟨by omega, by omega, fun g4 q4 y hy => ?_⟩
        rw [am_w_id (by omega) (by omega)] at hy
        subst hy
        refine kk g4 ?_
        rw [q4]
        refine hI.put (by decide +kernel) (by omega) ?_
        rw [hI.2.2 _, if_neg (by omega), a1]
        exact cg a (by omega)
    · have HH := H g1 w1 f1 (by rw [if_neg (fun q => q.2 c2)]; exact a1)
      rw [if_pos c2] at HH; exact HH
  · rw [i0] at c
    have HH := H g1 w1 f1 (by rw [if_neg (fun q => c q.1)]; exact a1)
    rw [if_neg c] at HH; exact HH
end SM
section SN
variable {scr : Nat × (Nat → Int)} {d : Nat} {h : am_H} {Q : Option am_V → am_H → Prop} {W : Wd} {p ser : Nat} {a b : Nat → Int} {B : Int}
theorem k_Ssleeper {s w : Int} (hs : am_sc scr) (hw : wf h) (wo : wc h W) (x : plW h W 24 ser a) (r : rok a (W.2.2.1 ser) B) (H : Q (some (.inl (q_sleeper a s w))) h) : am_R (am_prog scr) (d + 1) f_S_sleeper 0 [some (.inr (.inr (((0) : Nat) : Int))), some (.inl (s)), some (.inl (w))] [] h Q := by
  have p24 : 24 ∈ PL := by decide
  have h4 := r.1.1
  unfold q_sleeper at H
  refine w_S_sleeper_0 hs hw ?_
  refine k_has hs hw p24 wo x ⟨_, rfl, hw, fun c => ?_, fun c => ⟨fun c2 => ?_, fun c2 => ⟨fun c3 => ⟨fun c4 => ⟨?_, ?_⟩, fun c4 => ⟨?_, ?_⟩⟩, fun c3 => ?_⟩⟩⟩
  · rw [i0] at c; rw [if_neg c] at H; exact H
  · rw [i0, Decidable.not_not] at c; rw [if_pos c, if_neg (by omega), if_neg (by omega)] at H; exact H
  · rw [i0, Decidable.not_not] at c; omega
  · rw [i0, Decidable.not_not] at c; rw [if_pos c, if_neg c4, if_pos (by omega)] at H
    have e := (pl_bd x.2.2.1 (s := s) (by omega)).2
    rw [show (24 + 2 : Nat) = 26 by rfl] at e
    rw [e]; exact H
  · rw [i0, Decidable.not_not] at c; omega
  · rw [i0, Decidable.not_not] at c; rw [if_pos c, if_pos c4] at H
    have e := (pl_bd x.2.2.1 (s := s) (by omega)).1
    rw [show (24 + 1 : Nat) = 25 by rfl] at e
    rw [e]; exact H
  · rw [i0, Decidable.not_not] at c; rw [if_pos c, if_neg (by omega), if_neg (by omega)] at H; exact H
theorem k_Swould {s : Int} (hs : am_sc scr) (hw : wf h) (wo : wc h W) (x : plW h W 24 ser a) (r : rok a (W.2.2.1 ser) B) (H : ∀ g, wf g → fr [10, 11, 14, 15] [] h g → wc g W → Q (some (.inl (q_would a (W.2.2.1 ser) s))) g) : am_R (am_prog scr) (d + 3) f_S_would 0 [some (.inr (.inr (((0) : Nat) : Int))), some (.inl (s))] [] h Q := by
  have p24 : 24 ∈ PL := by decide
  unfold q_would at H
  refine w_S_would_0 hs hw ?_
  refine k_has hs hw p24 wo x ⟨_, rfl, hw, fun c => ?_, fun c => ?_⟩
  · rw [i0] at c; rw [if_neg c] at H; exact H h hw fr.rfl wo
  · rw [i0, Decidable.not_not] at c; rw [if_pos c] at H
    obtain ⟨hh, hl⟩ := x.hs wo
    exact k_amount hs hw p24 r.1 hh x.2.2.1 hl wo.1 wo.2.2 r.2.2.2.1 r.st.1 c (fun g wg fg cg => ⟨_, rfl, wg, H g wg fg ⟨wo.1, wo.2.1.fr fg (by decide) (by simp), cg⟩⟩)
theorem k_Sby {v w : Int} (hs : am_sc scr) (hw : wf h) (wo : wc h W) (x : plW h W 24 ser a) (r : rok a (W.2.2.1 ser) B) (hB : B < 900000) (hv : am_w v = v) (H : ∀ g, wf g → fr [10, 11, 12, 13, 14, 15, 27, 28, 29] [] h g → wc g W → Q (some (.inl (q_by a (W.2.2.1 ser) v w))) g) : am_R (am_prog scr) (d + 4) f_S_by 0 [some (.inr (.inr (((0) : Nat) : Int))), some (.inl (v)), some (.inl (w)), none] [] h Q := by
  have p24 : 24 ∈ PL := by decide
  have p27 : 27 ∈ PL := by decide
  have hr := am_w_rg hv
  have h4 := r.1.1
  unfold q_by at H
  refine w_S_by_0 hs hw ⟨fun c => ?_, fun c => ⟨fun c2 => ?_, fun c2 => ?_⟩⟩
  · rw [if_neg (by omega)] at H; exact H h hw fr.rfl wo
  · rw [if_pos (by omega)] at H
    refine k_isBeat hs hw ⟨_, rfl, hw, fun c3 => ?_, fun c3 => ?_⟩
    · rw [i0] at c3
      have : whyBA a v ≠ 0 := fun e => by have := (whyBA_0 e).1; omega
      rw [if_neg this] at H; exact H h hw fr.rfl wo
    · rw [i0, Decidable.not_not] at c3
      have ew : whyA a v = whyBA a v := by unfold whyA; rw [if_pos c3]
      refine k_whyNotC hs hw p24 wo x r ⟨_, rfl, hw, ?_⟩
      rw [ew]
      refine ⟨fun c4 => ?_, fun c4 => ?_⟩
      · rw [if_pos c4] at H
        have c5 := whyBA_0 c4
        refine k_takeFrom hs hw p27 p24 (by decide) x r (fun g2 w2 f2 x2 y2 => ⟨rfl, w2, ?_⟩)
        rw [am_w_id (by omega) (by omega)]
        refine k_stepW hs w2 p27 (wo.fr f2 (by decide) (by simp)) x2 r (by omega) c5.2 (fun g3 w3 f3 wc3 x3 => ⟨_, rfl, w3, ?_⟩)
        have HH := H g3 w3 ((f2.mono (by decide) (by simp)).trans (f3.mono (by decide) (by decide))) wc3
        have gs := gbA_st r c5.2 (v - 1)
        have e5 : g3.2.2.2 27 5 = soundI (btA a (W.2.2.1 ser) (v - 1)) := by rw [x3.2.2.1.2.2.2.2.1, gs]
        have e6 : g3.2.2.2 27 6 = actI (btA a (W.2.2.1 ser) (v - 1)) := by rw [x3.2.2.1.2.2.2.2.2.1, gs]
        rw [e5, e6]
        refine ⟨fun c6 => ⟨fun c7 => ?_, fun c7 => ?_⟩, fun c6 => ?_⟩
        · rw [if_neg c6, if_neg c7] at HH; exact HH
        · rw [if_neg c6, if_pos c7] at HH; exact HH
        · rw [if_pos c6] at HH; exact HH
      · rw [if_neg c4] at H; exact H h hw fr.rfl wo
  · rw [if_neg (by omega)] at H; exact H h hw fr.rfl wo
theorem k_Scount {w : Int} (hs : am_sc scr) (hw : wf h) (wo : wc h W) (x : plW h W 24 ser a) (y : rgC h W ser a) (r : rok a (W.2.2.1 ser) B) (H : Q (some (.inl (q_count a (h.2.2.2 0 1) w))) h) : am_R (am_prog scr) (d + 2) f_S_count 0 [some (.inr (.inr (((0) : Nat) : Int))), some (.inl (w))] [] h Q := by
  have p24 : 24 ∈ PL := by decide
  obtain ⟨o1, o2, o3, o4⟩ := hs_oW wo x
  obtain ⟨hh, hl⟩ := x.hs wo
  have st := r.st
  have r3 := r.2.2.1
  have x3 := x.2.2.1
  have e4 : h.2.2.2 24 4 = if a 4 = 0 then -1 else a 12 := by rw [x3.2.2.2.1, st.2.2.1]
  have e5 : h.2.2.2 24 5 = a 13 := by rw [x3.2.2.2.2.1, st.2.2.2.1]
  have e6 : h.2.2.2 24 6 = a 14 := by rw [x3.2.2.2.2.2.1, st.2.1]
  have e8 : h.2.2.2 24 8 = a 15 := by rw [x3.2.2.2.2.2.2, st.2.2.2.2]
  unfold q_count at H
  refine w_S_count_0 hs hw ?_
  rw [o2]
  refine ⟨fun c => ⟨o1, ?_⟩, fun c => ⟨o1, ?_⟩, fun c => ⟨o1, ?_⟩, fun c => ⟨o1, ?_⟩, fun c => ?_, fun c => ?_, fun c => ?_, fun c => ?_, fun c => ?_, fun c => ?_, fun c => ?_, fun c => ?_, fun c => ⟨o1, ?_⟩, fun c => ?_⟩
  · subst c; rw [hh.2.2.1]; exact H
  · subst c; rw [o3]; exact H
  · subst c; rw [hh.2.2.2.1]; exact H
  · subst c; rw [o4]; exact H
  · subst c; rw [e4]; exact H
  · subst c; rw [e5]; exact H
  · subst c; rw [e6]; exact H
  · subst c
    have HH : Q (some (.inl (if a 14 = a 3 then 1 else if a 15 = 1 then 2 else 0))) h := H
    refine k_goesOnC hs hw p24 wo x r ⟨_, rfl, hw, ?_⟩
    rw [e8]
    refine ⟨fun c => ?_, fun c => ?_⟩
    · have ho : ovA a := by
        apply Decidable.byContradiction; intro q; rw [if_neg q] at c; omega
      refine ⟨fun c2 => ?_, fun c2 => ?_⟩
      · rcases ho with q | q
        · rw [if_pos q] at HH; exact HH
        · omega
      · rw [if_neg (by omega), if_pos (by omega)] at HH; exact HH
    · have ho : ¬ ovA a := by
        intro q; rw [if_pos q] at c; omega
      rw [if_neg (fun e => ho (Or.inl e)), if_neg (fun e => ho (Or.inr e))] at HH; exact HH
  · subst c; rw [x3.2.2.1]; exact H
  · subst c; rw [x.2.2.2]; exact H
  · subst c; rw [y.2.1]; exact H
  · subst c; exact H
  · subst c; rw [hh.2.2.2.2.2.2.2.1]; exact H
  · obtain ⟨c0, c1, c2, c3, c4, c5, c6, c7, c8, c9, c10, c11, c12⟩ := c
    rw [if_neg c0, if_neg c1, if_neg c2, if_neg c3, if_neg c4, if_neg c5, if_neg c6, if_neg c7, if_neg c8, if_neg c9, if_neg c10, if_neg c11, if_neg c12] at H
    exact H
theorem k_fillL {c : Nat} {n : Nat} {v : Int} (hs : am_sc scr) (hw : wf h) (hc : c < 133) (hk : wk c = (2, n)) (hn : n ≤ 1000) (ho : c ∉ wr_o) (H : ∀ g, wf g → fr [c] [] h g → (∀ j, g.2.2.2 c j = if j < n then v else h.2.2.2 c j) → Q none g) : am_R (am_prog scr) d f_jA_fill 0 [some (.inr (.inr (((c) : Nat) : Int))), some (.inr (.inl (v))), none, none, none] [] h Q := by
  refine w_jA_fill_0 hs hw ⟨hw.l hc hk (by omega), fun y hy => ?_⟩
  rw [Int.toNat_natCast, hw.k hc hk] at hy
  subst hy
  refine down (n := n) (I := fillI h c 0 (fun _ => v)) (R := fun i g => am_R (am_prog scr) d f_jA_fill 6 [some (.inr (.inr (((c) : Nat) : Int))), some (.inr (.inl (v))), none, some (.inl ((i : Int))), some (.inl ((n : Int)))] [] g Q) ?_ ?_ n 0 h (by omega) (fillI.zero hw)
  · intro g hI
    refine w_jA_fill_6 hs hI.1 ⟨fun _ => H g hI.1 hI.2.1 (fun j => by rw [hI.2.2 j]; simp), fun c => by omega⟩
  · intro i g hi hI k
    refine w_jA_fill_6 hs hI.1 ⟨fun c => by omega, fun _ => ⟨hI.1.a hc hk (by omega) (by omega), by rw [Int.toNat_natCast]; exact ho, fun g1 q1 y hy => ?_⟩⟩
    rw [am_w_id (by omega) (by omega)] at hy
    subst hy
    refine k g1 ?_
    rw [q1, Int.toNat_natCast]
    exact hI.put ho (by omega) rfl
theorem k_fillI {c : Nat} {n : Nat} {v : Int} (hs : am_sc scr) (hw : wf h) (hc : c < 133) (hk : wk c = (1, n)) (hn : n ≤ 1000) (ho : c ∉ wr_o) (H : ∀ g, wf g → fr [c] [] h g → (∀ j, g.2.2.2 c j = if j < n then v else h.2.2.2 c j) → Q none g) : am_R (am_prog scr) d f_jA_fill2 0 [some (.inr (.inr (((c) : Nat) : Int))), some (.inl (v)), none, none] [] h Q := by
  refine w_jA_fill2_0 hs hw ⟨hw.l hc hk (by omega), fun y hy => ?_⟩
  rw [Int.toNat_natCast, hw.k hc hk] at hy
  subst hy
  refine down (n := n) (I := fillI h c 0 (fun _ => v)) (R := fun i g => am_R (am_prog scr) d f_jA_fill2 5 [some (.inr (.inr (((c) : Nat) : Int))), some (.inl (v)), some (.inl ((i : Int))), some (.inl ((n : Int)))] [] g Q) ?_ ?_ n 0 h (by omega) (fillI.zero hw)
  · intro g hI
    refine w_jA_fill2_5 hs hI.1 ⟨fun _ => H g hI.1 hI.2.1 (fun j => by rw [hI.2.2 j]; simp), fun c => by omega⟩
  · intro i g hi hI k
    refine w_jA_fill2_5 hs hI.1 ⟨fun c => by omega, fun _ => ⟨hI.1.a hc hk (by omega) (by omega), by rw [Int.toNat_natCast]; exact ho, fun g1 q1 y hy => ?_⟩⟩
    rw [am_w_id (by omega) (by omega)] at hy
    subst hy
    refine k g1 ?_
    rw [q1, Int.toNat_natCast]
    exact hI.put ho (by omega) rfl
theorem k_Snumbers {t s n : Int} (hs : am_sc scr) (hw : wf h) (H : ∀ g, wf g → fr (if (0 ≤ t ∧ t ≤ 3) ∧ (0 ≤ s ∧ s ≤ 3) ∧ (0 ≤ n ∧ n ≤ 40) then [95 + 2 * t.toNat, 95 + 2 * t.toNat + 1] else []) [] h g → ((0 ≤ t ∧ t ≤ 3) ∧ (0 ≤ s ∧ s ≤ 3) ∧ (0 ≤ n ∧ n ≤ 40) → g.2.2.2 (95 + 2 * t.toNat) 0 = 0 ∧ g.2.2.2 (95 + 2 * t.toNat) 1 = s ∧ g.2.2.2 (95 + 2 * t.toNat) 2 = n ∧ ∀ j, j < 40 → g.2.2.2 (95 + 2 * t.toNat + 1) j = 0) → Q (some (.inl (if (0 ≤ t ∧ t ≤ 3) ∧ (0 ≤ s ∧ s ≤ 3) then (if 0 ≤ n ∧ n ≤ 40 then 0 else -3) else -2))) g) : am_R (am_prog scr) (d + 2) f_S_numbers 0 [some (.inr (.inr (((0) : Nat) : Int))), some (.inl (t)), some (.inl (s)), some (.inl (n))] [] h Q := by
  have no2 : ¬ ((0 ≤ t ∧ t ≤ 3) ∧ (0 ≤ s ∧ s ≤ 3)) → Q (some (.inl (-2))) h := fun q => by
    have HH := H h hw fr.rfl (fun q2 => absurd ⟨q2.1, q2.2.1⟩ q)
    rw [if_neg q] at HH; exact HH
  have no3 : ((0 ≤ t ∧ t ≤ 3) ∧ (0 ≤ s ∧ s ≤ 3)) → ¬ (0 ≤ n ∧ n ≤ 40) → Q (some (.inl (-3))) h := fun q q3 => by
    have HH := H h hw fr.rfl (fun q2 => absurd q2.2.2 q3)
    rw [if_pos q, if_neg q3] at HH; exact HH
  refine w_S_numbers_0 hs hw ⟨fun c => no2 (by omega), fun c => ⟨fun c2 => no2 (by omega), fun c2 => ⟨fun c3 => no2 (by omega), fun c3 => ⟨fun c4 => ⟨fun c5 => no3 (by omega) (by omega), fun c5 => ⟨fun c6 => ⟨by omega, ?_⟩, fun c6 => no3 (by omega) (by omega)⟩⟩, fun c4 => no2 (by omega)⟩⟩⟩⟩
  have q : (0 ≤ t ∧ t ≤ 3) ∧ (0 ≤ s ∧ s ≤ 3) ∧ (0 ≤ n ∧ n ≤ 40) := by omega
  rw [if_pos q, if_pos (by omega), if_pos (by omega)] at H
  have ht := TR_i q.1
  obtain ⟨l1, l2, l3, l4, l5⟩ := tr_lt ht
  generalize 95 + 2 * t.toNat = T at ht l1 l2 l3 l4 l5 H
  refine w_Tray_lay_0 ht hs hw (fun g1 q1 g2 q2 g3 q3 => ?_)
  have w3 : wf g3 := by rw [q3, q2, q1]; exact ((hw.put (tr_np ht (by omega))).put (tr_np ht (by omega))).put (tr_np ht (by omega))
  have f3 : fr [T, T + 1] [] h g3 := by rw [q3, q2, q1]; exact ((fr.rfl.put (Or.inl (by simp))).put (Or.inl (by simp))).put (Or.inl (by simp))
  refine k_fillL (n := 40) hs w3 (by omega) l3 (by omega) l5 (fun g4 w4 f4 e4 => ⟨rfl, w4, ?_⟩)
  have et : ∀ j, g4.2.2.2 T j = g3.2.2.2 T j := fun j => f4.f T j (by simp) (by simp)
  refine ⟨rfl, w4, H g4 w4 (f3.trans (f4.mono (by simp) (by simp))) (fun _ => ⟨?_, ?_, ?_, fun j hj => by rw [e4 j, if_pos hj]⟩)⟩
  · rw [et, q3, put_ne (by omega), q2, put_ne (by omega), q1, put_eq]
  · rw [et, q3, put_ne (by omega), q2, put_eq]
  · rw [et, q3, put_eq]
theorem k_put {T : Nat} {i v : Int} (hs : am_sc scr) (hw : wf h) (ht : T ∈ TR) (hi : 0 ≤ i ∧ i < 40) (H : ∀ g, wf g → fr [T + 1] [] h g → (∀ j, g.2.2.2 (T + 1) j = if j = i.toNat then cutS v (h.2.2.2 T 1) else h.2.2.2 (T + 1) j) → Q (some (.inr (.inl (cutS v (h.2.2.2 T 1))))) g) : am_R (am_prog scr) d f_Tray_put 0 [some (.inr (.inr (((T) : Nat) : Int))), some (.inl (i)), some (.inr (.inl (v))), none, none, none] [] h Q := by
  obtain ⟨l1, l2, l3, l4, l5⟩ := tr_lt ht
  have fin : ∀ z : Int, z = cutS v (h.2.2.2 T 1) → ∀ g, g = am_put h (T + 1) i.toNat z → Q (some (.inr (.inl (z)))) g := by
    intro z hz g q
    subst hz
    refine H g (by rw [q]; exact hw.pa l5) (by rw [q]; exact fr.rfl.put (Or.inl (by simp))) (fun j => ?_)
    rw [q]
    simp only [put_at, true_and]
  unfold cutS at fin
  refine w_Tray_put_0 ht hs hw ⟨fun c => ⟨fun c2 => ⟨fun c3 => ⟨hi, fun g q => ?_⟩, fun c3 y hy => ⟨hi, fun g q => ?_⟩⟩, fun c2 y hy => ⟨hi, fun g q => ?_⟩⟩, fun c y hy => ⟨hi, fun g q => ?_⟩⟩
  · exact fin _ (by rw [if_neg c, if_neg c2, if_neg c3]) g q
  · exact fin _ (by rw [if_neg c, if_neg c2, if_pos c3, hy]) g q
  · exact fin _ (by rw [if_neg c, if_pos c2, hy]) g q
  · exact fin _ (by rw [if_pos c, hy]) g q
theorem k_Swrite {t i v : Int} (hs : am_sc scr) (hw : wf h) (hn : (0 ≤ t ∧ t ≤ 3) → 0 ≤ h.2.2.2 (95 + 2 * t.toNat) 2 ∧ h.2.2.2 (95 + 2 * t.toNat) 2 ≤ 40) (H : ∀ g, wf g → fr (if 0 ≤ t ∧ t ≤ 3 then [95 + 2 * t.toNat + 1] else []) [] h g → (∀ j, g.2.2.2 (95 + 2 * t.toNat + 1) j = if ((0 ≤ t ∧ t ≤ 3) ∧ h.2.2.2 (95 + 2 * t.toNat) 0 = 0 ∧ (0 ≤ i ∧ i < h.2.2.2 (95 + 2 * t.toNat) 2)) ∧ j = i.toNat then cutS v (h.2.2.2 (95 + 2 * t.toNat) 1) else h.2.2.2 (95 + 2 * t.toNat + 1) j) → Q (some (.inr (.inl (if 0 ≤ t ∧ t ≤ 3 then (if h.2.2.2 (95 + 2 * t.toNat) 0 = 0 then (if 0 ≤ i ∧ i < h.2.2.2 (95 + 2 * t.toNat) 2 then cutS v (h.2.2.2 (95 + 2 * t.toNat) 1) else -7) else -6) else -2)))) g) : am_R (am_prog scr) (d + 1) f_S_write 0 [some (.inr (.inr (((0) : Nat) : Int))), some (.inl (t)), some (.inl (i)), some (.inr (.inl (v))), none, none] [] h Q := by
  have no : ¬ ((0 ≤ t ∧ t ≤ 3) ∧ h.2.2.2 (95 + 2 * t.toNat) 0 = 0 ∧ (0 ≤ i ∧ i < h.2.2.2 (95 + 2 * t.toNat) 2)) → Q (some (.inr (.inl (if 0 ≤ t ∧ t ≤ 3 then (if h.2.2.2 (95 + 2 * t.toNat) 0 = 0 then (if 0 ≤ i ∧ i < h.2.2.2 (95 + 2 * t.toNat) 2 then cutS v (h.2.2.2 (95 + 2 * t.toNat) 1) else -7) else -6) else -2)))) h := fun q => H h hw fr.rfl (fun j => by rw [if_neg (fun q2 => q q2.1)])
  refine w_S_write_0 hs hw ?_
  refine k_trayRefusal hs hw ⟨_, rfl, hw, fun c3 => ?_, fun c3 => ?_⟩
  · have c4 : 0 ≤ t ∧ t ≤ 3 := by
      apply Decidable.byContradiction; intro q; rw [if_neg q] at c3; omega
    rw [if_pos c4] at c3
    have c5 : h.2.2.2 (95 + 2 * t.toNat) 0 = 0 := by
      apply Decidable.byContradiction; intro q; rw [if_neg q] at c3; omega
    have hn := hn c4
    rw [if_pos c4, if_pos c5] at no
    refine ⟨fun c6 => ?_, fun c6 => ⟨by omega, fun c7 => ⟨by omega, ?_⟩, fun c7 => ?_⟩⟩
    · have := no (by omega)
      rw [if_neg (by omega)] at this; exact this
    · refine k_put hs hw (TR_i c4) (by omega) (fun g wg fg eg => ⟨_, rfl, wg, ?_⟩)
      have HH := H g wg (by rw [if_pos c4]; exact fg) (fun j => by
        rw [eg j]
        by_cases q : j = i.toNat
        · rw [if_pos q, if_pos ⟨⟨c4, c5, by omega⟩, q⟩]
        · rw [if_neg q, if_neg (fun q2 => q q2.2)])
      rw [if_pos c4, if_pos c5, if_pos (by omega)] at HH
      exact HH
    · have := no (by omega)
      rw [if_neg (by omega)] at this; exact this
  · by_cases c4 : 0 ≤ t ∧ t ≤ 3
    · rw [if_pos c4] at c3 no ⊢
      by_cases c5 : h.2.2.2 (95 + 2 * t.toNat) 0 = 0
      · rw [if_pos c5] at c3; omega
      · rw [if_neg c5] at no ⊢
        exact no (fun q => c5 q.2.1)
    · rw [if_neg c4] at no ⊢
      exact no (fun q => c4 q.1)
theorem k_Simage {i : Int} (hs : am_sc scr) (hw : wf h) (x : plW h W 24 ser a) (r : rok a (W.2.2.1 ser) B) (H : ∀ g, wf g → fr (if 0 ≤ i ∧ i ≤ 1 then [19, 103 + 3 * i.toNat, 103 + 3 * i.toNat + 1, 103 + 3 * i.toNat + 2] else []) [] h g → (0 ≤ i ∧ i ≤ 1 → plW g W (103 + 3 * i.toNat) ser a ∧ ∀ j, g.2.2.2 19 j = if j = i.toNat then 1 else h.2.2.2 19 j) → Q (some (.inl (if 0 ≤ i ∧ i ≤ 1 then 0 else -2))) g) : am_R (am_prog scr) (d + 1) f_S_image 0 [some (.inr (.inr (((0) : Nat) : Int))), some (.inl (i))] [] h Q := by
  have p24 : 24 ∈ PL := by decide
  have no : ¬ (0 ≤ i ∧ i ≤ 1) → Q (some (.inl (-2))) h := fun q => by
    have HH := H h hw fr.rfl (fun q2 => absurd q2 q)
    rw [if_neg q] at HH; exact HH
  refine w_S_image_0 hs hw ⟨fun c => no (by omega), fun c => ⟨fun c2 => ⟨by omega, ?_⟩, fun c2 => no (by omega)⟩⟩
  have q : 0 ≤ i ∧ i ≤ 1 := by omega
  rw [if_pos q, if_pos q] at H
  have pi := (pl_img (j := i) hw (by omega)).1
  refine k_takeFrom hs hw pi p24 (by omega) x r (fun g2 w2 f2 x2 y2 => ⟨rfl, w2, by omega, fun g4 q4 => ?_⟩)
  have f4 : fr [19] [] g2 g4 := by rw [q4]; exact fr.rfl.put (Or.inl (by simp))
  refine H g4 (by rw [q4]; exact w2.pa (by decide +kernel)) ((f2.mono (by simp) (by simp)).trans (f4.mono (by simp) (by simp))) (fun _ => ⟨x2.fr f4 (by simp; omega) (by simp), fun j => ?_⟩)
  rw [q4]
  simp only [put_at, true_and]
  rw [f2.f 19 j (by simp; omega) (by simp)]
theorem k_Srestore {i : Int} {sr : Nat} {b : Nat → Int} (hs : am_sc scr) (hw : wf h) (hz : (0 ≤ i ∧ i ≤ 1) → h.2.2.2 19 i.toNat ≠ 0 → plW h W (103 + 3 * i.toNat) sr b ∧ rok b (W.2.2.1 sr) B) (H : ∀ g, wf g → fr (if (0 ≤ i ∧ i ≤ 1) ∧ h.2.2.2 19 i.toNat ≠ 0 then [24, 25, 26] else []) (if (0 ≤ i ∧ i ≤ 1) ∧ h.2.2.2 19 i.toNat ≠ 0 then [(63, 2)] else []) h g → ((0 ≤ i ∧ i ≤ 1) ∧ h.2.2.2 19 i.toNat ≠ 0 → plW g W 24 sr b ∧ g.2.2.2 63 2 = 0) → Q (some (.inl (if 0 ≤ i ∧ i ≤ 1 then (if h.2.2.2 19 i.toNat = 0 then -5 else 0) else -2))) g) : am_R (am_prog scr) (d + 1) f_S_restore 0 [some (.inr (.inr (((0) : Nat) : Int))), some (.inl (i))] [] h Q := by
  have p24 : 24 ∈ PL := by decide
  have no : ¬ ((0 ≤ i ∧ i ≤ 1) ∧ h.2.2.2 19 i.toNat ≠ 0) → Q (some (.inl (if 0 ≤ i ∧ i ≤ 1 then (if h.2.2.2 19 i.toNat = 0 then -5 else 0) else -2))) h := fun q => H h hw fr.rfl (fun q2 => absurd q2 q)
  refine w_S_restore_0 hs hw ⟨fun c => ?_, fun c => ⟨fun c2 => ⟨by omega, fun c3 => ⟨by omega, ?_⟩, fun c3 => ?_⟩, fun c2 => ?_⟩⟩
  · have := no (by omega)
    rw [if_neg (by omega)] at this; exact this
  · have q : (0 ≤ i ∧ i ≤ 1) ∧ h.2.2.2 19 i.toNat ≠ 0 := ⟨by omega, c3⟩
    rw [if_pos q, if_pos q, if_pos q.1, if_neg c3] at H
    have pi := (pl_img (j := i) hw (by omega)).1
    obtain ⟨z1, z2⟩ := hz q.1 c3
    refine k_takeFrom hs hw p24 pi (by omega) z1 z2 (fun g2 w2 f2 x2 y2 => ⟨rfl, w2, ?_⟩)
    refine w_Past_forget_0 hs w2 (fun g3 q3 => ⟨rfl, by rw [q3]; exact w2.put np_63_2, ?_⟩)
    have f3 : fr [] [(63, 2)] g2 g3 := by rw [q3]; exact fr.rfl.put (Or.inr (by decide))
    exact H g3 (by rw [q3]; exact w2.put np_63_2) ((f2.mono (by decide) (by simp)).trans (f3.mono (by simp) (by decide))) (fun _ => ⟨x2.fr f3 (by simp) (by decide), by rw [q3]; exact put_eq⟩)
  · have := no (fun q => q.2 c3)
    rw [if_pos (by omega), if_pos c3] at this; exact this
  · have := no (by omega)
    rw [if_neg (by omega)] at this; exact this
end SN
