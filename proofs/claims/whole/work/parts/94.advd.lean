/-! the next token: the class, whole -/
def tkC (T : Nat → Int) (N p : Nat) : Int := if tkS T N p < N then (if 97 ≤ T (tkS T N p) ∧ T (tkS T N p) ≤ 122 then 0 else if 48 ≤ T (tkS T N p) ∧ T (tkS T N p) ≤ 57 then (if tkE T N p ≤ tkS T N p + 3 then 1 else 3) else if sgF (T (tkS T N p)) 12 = 27 then 3 else 2) else 4
section AH
variable {scr : Nat × (Nat → Int)} {d : Nat} {h : am_H} {Q : Option am_V → am_H → Prop} {T : Nat → Int} {N p : Nat}
theorem k_advance (hs : am_sc scr) (hw : wf h) (t : teC h T N) (e4 : h.2.2.2 3 4 = (p : Int)) (hp : p ≤ N) (H : ∀ g, wf g → fr [] ADF h g → g.2.2.2 3 3 = (tkS T N p : Int) → g.2.2.2 3 4 = (tkE T N p : Int) → g.2.2.2 3 2 = tkC T N p → g.2.2.2 3 5 = tkN T N p (h.2.2.2 3 5) → Q none g) : am_R (am_prog scr) (d + 5) f_Tokens_advance 0 [some (.inr (.inr (((3) : Nat) : Int))), none] [] h Q := by
  have tN := t.1
  have at_ : ∀ (s : Nat) (g : am_H), s = tkS T N p → s ≤ N → wf g → teC g T N → fr [] ADF h g → g.2.2.2 3 3 = (s : Int) → g.2.2.2 3 5 = h.2.2.2 3 5 → am_R (am_prog scr) (d + 5) f_Tokens_advance 60 [some (.inr (.inr (((3) : Nat) : Int))), none] [] g Q := by
    intro s g es hsN wg tg fg e3 e5
    unfold tkC tkE tkN at H
    unfold tkE at H
    rw [← es] at H
    refine w_Tokens_advance_60 hs wg (fun h1 q1 => ?_)
    rw [e3] at q1
    have w1 : wf h1 := by rw [q1]; exact wg.put np_3_4
    have f1 : fr [] ADF g h1 := by rw [q1]; exact fr.rfl.put (Or.inr (by decide))
    have t1 := tg.fr f1
    have a3 : h1.2.2.2 3 3 = (s : Int) := by rw [q1, put_ne (by omega)]; exact e3
    have a4 : h1.2.2.2 3 4 = (s : Int) := by rw [q1, put_eq]
    have a5 : h1.2.2.2 3 5 = h.2.2.2 3 5 := by rw [q1, put_ne (by omega)]; exact e5
    rw [a3, t1.2.2.1]
    refine ⟨fun c => ?_, fun c h7 q7 => ?_⟩
    · have lt : s < N := by omega
      obtain ⟨b1, b2, b3⟩ := t1.at w1 (k := s) lt
      refine ⟨b1, fun y3 h3 => ?_⟩
      rw [← h3] at b2 b3
      have oth : ¬ (97 ≤ T s ∧ T s ≤ 122) → am_R (am_prog scr) (d + 5) f_Tokens_advance 164 [some (.inr (.inr (((3) : Nat) : Int))), some (.inl (y3))] [] h1 Q := by
        intro c1
        have sign : ¬ (48 ≤ T s ∧ T s ≤ 57) → am_R (am_prog scr) (d + 5) f_Tokens_advance 302 [some (.inr (.inr (((3) : Nat) : Int))), some (.inl (y3))] [] h1 Q := by
          intro c2
          have yb := t.2.2.2.2 s
          have cc : am_i2c (am_and y3 255) = T s := by
            rw [and255 (am_w_id (by omega) (by omega)), b3]
            have : ∀ c : Nat, c < 256 → am_i2c (c : Int) = (c : Int) := by decide +kernel
            have := this (T s).toNat (by omega)
            rw [show (((T s).toNat : Nat) : Int) = T s by omega] at this
            exact this
          have sx := sg_ix (T s).toNat (by omega)
          rw [show (((T s).toNat : Nat) : Int) = T s by omega] at sx
          rw [if_pos lt, if_neg c1, if_neg c2, if_pos lt, if_neg c1, if_neg c2, if_neg (show ¬ (s < N ∧ ¬ (97 ≤ T s ∧ T s ≤ 122) ∧ (48 ≤ T s ∧ T s ≤ 57)) from fun z => c2 z.2.2)] at H
          refine w_Tokens_advance_302 hs w1 ?_
          rw [cc]
          refine k_indexOf hs w1 yb ⟨_, rfl, w1, fun c3 h3 q3 h4 q4 => ?_, fun c3 h3 q3 h4 q4 => ?_⟩
          · have n4 : h3.2.2.2 3 4 = (s : Int) := by rw [q3, put_ne (by omega)]; exact a4
            rw [n4, am_w_id (by omega) (by omega)] at q4
            have f4 : fr [] ADF h1 h4 := by rw [q4, q3]; exact (fr.rfl.put (Or.inr (by decide))).put (Or.inr (by decide))
            rw [if_pos (sx.mp c3)] at H
            exact H h4 (by rw [q4, q3]; exact (w1.put np_3_2).put np_3_4) ((fg.trans f1).trans f4) (by rw [q4, put_ne (by omega), q3, put_ne (by omega)]; exact a3) (by rw [q4, put_eq]; omega) (by rw [q4, put_ne (by omega), q3, put_eq]) (by rw [q4, put_ne (by omega), q3, put_ne (by omega)]; exact a5)
          · have n4 : h3.2.2.2 3 4 = (s : Int) := by rw [q3, put_ne (by omega)]; exact a4
            rw [n4, am_w_id (by omega) (by omega)] at q4
            have f4 : fr [] ADF h1 h4 := by rw [q4, q3]; exact (fr.rfl.put (Or.inr (by decide))).put (Or.inr (by decide))
            rw [if_neg (fun z => c3 (sx.mpr z))] at H
            exact H h4 (by rw [q4, q3]; exact (w1.put np_3_2).put np_3_4) ((fg.trans f1).trans f4) (by rw [q4, put_ne (by omega), q3, put_ne (by omega)]; exact a3) (by rw [q4, put_eq]; omega) (by rw [q4, put_ne (by omega), q3, put_eq]) (by rw [q4, put_ne (by omega), q3, put_ne (by omega)]; exact a5)
        refine w_Tokens_advance_164 hs w1 ⟨fun c2 => sign (by omega), fun c2 => ⟨fun c3 => sign (by omega), fun c3 h2 q2 => ?_⟩⟩
        have dg : 48 ≤ T s ∧ T s ≤ 57 := by omega
        have w2 : wf h2 := by rw [q2]; exact w1.put np_3_5
        have f2 : fr [] ADF h1 h2 := by rw [q2]; exact fr.rfl.put (Or.inr (by decide))
        rw [if_pos lt, if_neg c1, if_pos dg, if_pos lt, if_neg c1, if_pos dg, if_pos (show s < N ∧ ¬ (97 ≤ T s ∧ T s ≤ 122) ∧ (48 ≤ T s ∧ T s ≤ 57) from ⟨lt, c1, dg⟩)] at H
        refine k_adv_181 (h := h2) (s := s) (E := dgF T N 900 s) hs (fun g3 w3 f3 z3 z4 z2 z5 => ?_) 900 s h2 (by omega) rfl (Nat.le_refl _) hsN w2 (t1.fr f2) fr.rfl (by rw [q2, put_ne (by omega)]; exact a3) (by rw [q2, put_ne (by omega)]; exact a4) (by rw [q2, put_eq, Nat.sub_self]; rfl)
        exact H g3 w3 ((fg.trans f1).trans (f2.trans f3)) z3 z4 z2 z5
      refine ⟨fun c1 => oth (by omega), fun c1 => ⟨fun c2 => oth (by omega), fun c2 h4 q4 => ?_⟩⟩
      have sm : 97 ≤ T s ∧ T s ≤ 122 := by omega
      have w4 : wf h4 := by rw [q4]; exact w1.put np_3_2
      have f4 : fr [] ADF h1 h4 := by rw [q4]; exact fr.rfl.put (Or.inr (by decide))
      rw [if_pos lt, if_pos sm, if_pos lt, if_pos sm, if_neg (fun z => z.2.1 sm)] at H
      refine k_adv_112 (h := h4) (s := s) (E := wdF T N 900 s) hs (fun g3 w3 f3 z3 z4 z2 z5 => ?_) 900 s h4 (by omega) rfl hsN w4 (t1.fr f4) fr.rfl (by rw [q4, put_ne (by omega)]; exact a4)
      exact H g3 w3 ((fg.trans f1).trans (f4.trans f3)) (z3.trans (by rw [q4, put_ne (by omega)]; exact a3)) z4 (z2.trans (by rw [q4, put_eq])) (z5.trans (by rw [q4, put_ne (by omega)]; exact a5))
    · have ge : ¬ s < N := by omega
      have f7 : fr [] ADF h1 h7 := by rw [q7]; exact fr.rfl.put (Or.inr (by decide))
      rw [if_neg ge, if_neg ge, if_neg (fun z => ge z.1)] at H
      exact H h7 (by rw [q7]; exact w1.put np_3_2) ((fg.trans f1).trans f7) (by rw [q7, put_ne (by omega)]; exact a3) (by rw [q7, put_ne (by omega)]; exact a4) (by rw [q7, put_eq]) (by rw [q7, put_ne (by omega)]; exact a5)
  have lp : ∀ (m q : Nat) (g : am_H), N ≤ q + m → spF T N m q = tkS T N p → q ≤ N → wf g → teC g T N → fr [] ADF h g → g.2.2.2 3 3 = (q : Int) → g.2.2.2 3 5 = h.2.2.2 3 5 → am_R (am_prog scr) (d + 5) f_Tokens_advance 8 [some (.inr (.inr (((3) : Nat) : Int))), none] [] g Q := by
    have stop : ∀ (q : Nat) (g : am_H), q = tkS T N p → q ≤ N → ¬ (q < N ∧ (T q = 10 ∨ T q = 32)) → wf g → teC g T N → fr [] ADF h g → g.2.2.2 3 3 = (q : Int) → g.2.2.2 3 5 = h.2.2.2 3 5 → am_R (am_prog scr) (d + 5) f_Tokens_advance 8 [some (.inr (.inr (((3) : Nat) : Int))), none] [] g Q := by
      intro q g hq hN no wg tg fg e3 e5
      have go := at_ q g hq hN wg tg fg e3 e5
      refine w_Tokens_advance_8 hs wg ?_
      rw [e3, tg.2.2.1]
      refine ⟨fun _ => go, fun c => ?_⟩
      obtain ⟨b1, b2, b3⟩ := tg.at wg (k := q) (by omega)
      refine ⟨b1, fun c2 => ?_, fun c2 => ⟨b1, fun _ => go, fun c3 => ?_⟩⟩
      · exfalso; exact no ⟨by omega, Or.inl (by omega)⟩
      · exfalso; exact no ⟨by omega, Or.inr (by omega)⟩
    intro m
    induction m with
    | zero =>
      intro q g hm hq h2 wg tg fg e3 e5
      simp only [spF] at hq
      exact stop q g hq h2 (fun z => by omega) wg tg fg e3 e5
    | succ m ih =>
      intro q g hm hq h2 wg tg fg e3 e5
      simp only [spF] at hq
      by_cases c0 : q < N ∧ (T q = 10 ∨ T q = 32)
      · rw [if_pos c0] at hq
        obtain ⟨b1, b2, b3⟩ := tg.at wg (k := q) c0.1
        have nxt : ∀ h3 : am_H, h3 = am_put g 3 3 (am_w ((q : Int) + 1)) → am_R (am_prog scr) (d + 5) f_Tokens_advance 8 [some (.inr (.inr (((3) : Nat) : Int))), none] [] h3 Q := by
          intro h3 q3
          rw [am_w_id (by omega) (by omega)] at q3
          have f3 : fr [] ADF g h3 := by rw [q3]; exact fr.rfl.put (Or.inr (by decide))
          exact ih (q + 1) h3 (by omega) hq (by omega) (by rw [q3]; exact wg.put np_3_3) (tg.fr f3) (fg.trans f3) (by rw [q3, put_eq]; omega) (by rw [q3, put_ne (by omega)]; exact e5)
        refine w_Tokens_advance_8 hs wg ?_
        rw [e3, tg.2.2.1]
        exact ⟨fun c => by omega, fun _ => ⟨b1, fun _ => nxt, fun c2 => ⟨b1, fun c3 => by omega, fun _ => nxt⟩⟩⟩
      · rw [if_neg c0] at hq
        exact stop q g hq h2 c0 wg tg fg e3 e5
  refine w_Tokens_advance_0 hs hw (fun h1 q1 => ?_)
  rw [e4] at q1
  have f1 : fr [] ADF h h1 := by rw [q1]; exact fr.rfl.put (Or.inr (by decide))
  exact lp 900 p h1 (by omega) rfl hp (by rw [q1]; exact hw.put np_3_3) (t.fr f1) f1 (by rw [q1, put_eq]) (by rw [q1, put_ne (by omega)])
end AH
