/-! the best order: what is kept, and the class's answer -/
section PE
variable {scr : Nat × (Nat → Int)} {d : Nat} {h : am_H} {Q : Option am_V → am_H → Prop} {W : Wd} {ser : Nat} {a : Nat → Int} {B C : Int}
theorem k_place (hs : am_sc scr) (hw : wf h) (wo : wc h W) (x : plW h W 24 ser a) (r : rok a (W.2.2.1 ser) B) (hB : B < 900000) (sn : snI h C) (hC : C + 720 < 900000) (y : plcI h W B) (H : ∀ g, wf g → fr PCL PCF h g → wc g W → snI g (C + 720) → plcI g W B → stC g a (plR a (W.2.2.1 ser)) → Q none g) : am_R (am_prog scr) (d + 6) f_Placer_place 0 [some (.inr (.inr (((57) : Nat) : Int))), some (.inr (.inr (((24) : Nat) : Int))), none, none, none] [] h Q := by
  have p24 : 24 ∈ PL := by decide
  have sb := r.st.1
  have n4 : a 4 ≠ 0 ∨ stA a % 2 = 1 := by
    by_cases q : a 4 = 0
    · right
      have := r.2.2.1.2.2.2.2.2 q
      have := r.st.2.2.2.2
      omega
    · exact Or.inl q
  have s7 : snI h (C + 720) := ⟨by have := sn.1; omega, sn.2⟩
  have anew : am_R (am_prog scr) (d + 6) f_Placer_place 24 [some (.inr (.inr (((57) : Nat) : Int))), some (.inr (.inr (((24) : Nat) : Int))), none, none, none] [] h Q := by
    refine w_Placer_place_24 p24 hs hw ?_
    refine k_setting hs hw p24 wo x r ⟨_, rfl, hw, fun h3 e3 => ?_⟩
    have w3 : wf h3 := by rw [e3]; exact hw.put np_57_5
    have f3 : fr [] [(57, 5)] h h3 := by rw [e3]; exact fr.rfl.put (Or.inr (by simp))
    have x3 : plW h3 W 24 ser a := x.fr f3 (by simp) (by decide)
    refine k_node (hid := W.2.2.2 ser) hs w3 p24 x3.2.2.1 sb n4 ⟨_, rfl, w3, fun h6 e6 h7 e7 => ?_⟩
    have w7 : wf h7 := by rw [e7, e6]; exact (w3.put np_57_6).put np_57_4
    have f7 : fr [] [(57, 4), (57, 6)] h3 h7 := by rw [e7, e6]; exact (fr.rfl.put (Or.inr (by simp))).put (Or.inr (by simp))
    have x7 : plW h7 W 24 ser a := x3.fr f7 (by simp) (by decide)
    have wc7 : wc h7 W := (wo.fr f3 (by simp) (by decide)).fr f7 (by simp) (by decide)
    have c5 : h7.2.2.2 57 5 = settingI ser a := by rw [f7.f 57 5 (by simp) (by decide), e3]; exact put_eq
    have c6 : h7.2.2.2 57 6 = nodeS (stA a) := by rw [e7, put_ne (by omega), e6]; exact put_eq
    have c4 : h7.2.2.2 57 4 = -1 := by rw [e7]; exact put_eq
    refine k_sortBeds hs w7 wc7 x7 r (fun g8 w8 f8 o8 => ⟨rfl, w8, ?_⟩)
    have sn8 : snI g8 C := ((sn.fr f3 (by simp) (by decide) (Int.le_refl _)).fr f7 (by simp) (by decide) (Int.le_refl _)).fr f8 (by decide) (by simp) (Int.le_refl _)
    have ff : fr PCL PCF h g8 := ((f3.mono (by simp) (by decide)).trans (f7.mono (by simp) (by decide))).trans (f8.mono (by decide) (by simp))
    refine k_place_54 (h := g8) (C := C) hs r hB hC (fun g wg fg wcg sg sc => ?_) 720 0 g8 1 (bedS a 6) (-1, []) (itL 720 (bedS a 6)) rfl w8 fr.rfl (wc7.fr f8 (by decide) (by simp)) (x7.fr f8 (by decide) (by simp)) ⟨by have := sn8.1; omega, sn8.2⟩ ⟨by rw [f8.f 57 4 (by simp) (by simp)]; exact c4, Or.inl rfl, fun q => absurd rfl q⟩ (Or.inl ⟨rfl, rfl, o8, bedS_len r⟩) (it_or r) (by unfold plR; rw [pr_it r])
    refine H g wg (ff.trans (fg.mono (by decide) (by decide))) wcg sg (Or.inr ⟨ser, a, x.1, x.2.1, r, ?_, ?_, sc⟩) sc
    · rw [fg.f 57 5 (by decide) (by decide), f8.f 57 5 (by simp) (by simp)]; exact c5
    · rw [fg.f 57 6 (by decide) (by decide), f8.f 57 6 (by simp) (by simp)]; exact c6
  refine w_Placer_place_0 p24 hs hw ?_
  refine k_setting hs hw p24 wo x r ⟨_, rfl, hw, fun c => anew, fun c => ?_⟩
  refine k_node (hid := W.2.2.2 ser) hs hw p24 x.2.2.1 sb n4 ⟨_, rfl, hw, fun c2 => anew, fun c2 => ?_⟩
  refine H h hw fr.rfl wo s7 y ?_
  rcases y with y | ⟨s, b, y1, y2, y3, y4, y5, y6⟩
  · have := setting_0 (ser := ser) (by have := x.1; have := wo.1; omega) r.1 r.2.2.2.1
    omega
  · have inj := setting_inj (s := ser) (t := s) r.1 y3.1 r.2.2.2.1 y3.2.2.2.1 (by rw [c, y4])
    obtain ⟨es, i2, i3⟩ := inj
    subst es
    have sm : simA a b := by
      intro j hj
      rcases hj with q | q
      · rw [y2 j q, x.2.1 j q]
      · by_cases q2 : j < 22
        · have := (i2 (j - 16) (by omega)).1
          rw [show 16 + (j - 16) = j by omega] at this
          exact this
        · by_cases q3 : j = 28
          · rw [q3]; exact i3
          · have := (i2 (j - 22) (by omega)).2
            rw [show 22 + (j - 22) = j by omega] at this
            exact this
    have e := plR_congr sm r y3 (by rw [← y5, c2])
    rw [e] at y6
    obtain ⟨u1, u2, u3⟩ := y6
    refine ⟨u1, u2, fun q i hi => u3 q i ?_⟩
    rw [sm 4 (by omega)]; exact hi
theorem k_Splacing {w : Int} (hs : am_sc scr) (hw : wf h) (wo : wc h W) (x : plW h W 24 ser a) (r : rok a (W.2.2.1 ser) B) (hB : B < 900000) (sn : snI h C) (hC : C + 720 < 900000) (y : plcI h W B) (hwb : -2147483648 ≤ w ∧ w < 2147483648) (H : ∀ g, wf g → fr PCL PCF h g → wc g W → snI g (C + 720) → plcI g W B → Q (some (.inl (q_placing a (W.2.2.1 ser) w))) g) : am_R (am_prog scr) (d + 7) f_S_placing 0 [some (.inr (.inr (((0) : Nat) : Int))), some (.inl (w))] [] h Q := by
  have p24 : 24 ∈ PL := by decide
  have h4 := r.1.1
  have s7 : snI h (C + 720) := ⟨by have := sn.1; omega, sn.2⟩
  have go : (w = 0 ∨ (10 ≤ w ∧ w - 10 < a 4)) → am_R (am_prog scr) (d + 7) f_S_placing 27 [some (.inr (.inr (((0) : Nat) : Int))), some (.inl (w))] [] h Q := by
    intro hwo
    refine w_S_placing_27 hs hw ?_
    refine k_place hs hw wo x r hB sn hC y (fun g wg fg wcg sg yg sc => ⟨rfl, wg, ?_⟩)
    have HH := H g wg fg wcg sg yg
    unfold q_placing at HH
    rw [sc.1]
    refine ⟨fun c => ?_, fun c => ⟨fun c2 => ?_, fun c2 => ?_⟩⟩
    · rw [if_pos c] at HH; exact HH
    · rw [if_neg c, if_pos (by omega), if_neg c2] at HH
      rw [am_w_id (x := w - 10) (by omega) (by omega), sc.2.2 c2 (w - 10).toNat (by omega)]
      exact ⟨by omega, HH⟩
    · rw [if_neg c, if_pos (by omega), if_pos c2] at HH
      rw [c2]; exact HH
  have no : ¬ w = 0 → ¬ (10 ≤ w ∧ w - 10 < a 4) → Q (some (.inl (-2))) h := by
    intro c c2
    have HH := H h hw fr.rfl wo s7 y
    unfold q_placing at HH
    rw [if_neg c, if_neg c2] at HH
    exact HH
  refine w_S_placing_0 hs hw ⟨fun c => go (Or.inl c), fun c => ⟨fun c2 => no c (by omega), fun c2 => ?_⟩⟩
  rw [am_w_id (x := w - 10) (by omega) (by omega)]
  refine k_has hs hw p24 wo x ⟨_, rfl, hw, fun c3 => ?_, fun c3 => ?_⟩
  · rw [i0, Decidable.not_not] at c3
    exact go (Or.inr (by omega))
  · rw [i0] at c3
    exact no c (by omega)
end PE
