/-! the next token: the reference, whole -/
theorem wdF_b {T : Nat → Int} {N : Nat} : ∀ (m p : Nat), p ≤ wdF T N m p ∧ (p ≤ N → wdF T N m p ≤ N) := by
  intro m
  induction m with
  | zero => intro p; exact ⟨Nat.le_refl _, fun h => h⟩
  | succ m ih =>
    intro p
    simp only [wdF]
    by_cases q : p < N ∧ (97 ≤ T p ∧ T p ≤ 122)
    · rw [if_pos q]; have := ih (p + 1); exact ⟨by omega, fun _ => this.2 (by omega)⟩
    · rw [if_neg q]; exact ⟨Nat.le_refl _, fun h => h⟩
theorem dgF_b {T : Nat → Int} {N : Nat} : ∀ (m p : Nat), p ≤ dgF T N m p ∧ (p ≤ N → dgF T N m p ≤ N) := by
  intro m
  induction m with
  | zero => intro p; exact ⟨Nat.le_refl _, fun h => h⟩
  | succ m ih =>
    intro p
    simp only [dgF]
    by_cases q : p < N ∧ (48 ≤ T p ∧ T p ≤ 57)
    · rw [if_pos q]; have := ih (p + 1); exact ⟨by omega, fun _ => this.2 (by omega)⟩
    · rw [if_neg q]; exact ⟨Nat.le_refl _, fun h => h⟩
section NG
variable {scr : Nat × (Nat → Int)} {d : Nat} {h : am_H} {Q : Option am_V → am_H → Prop} {T : Nat → Int} {N p : Nat}
def NXF : List (Nat × Nat) := [(109, 6), (109, 7), (109, 9), (109, 10)]
theorem k_next (hs : am_sc scr) (hw : wf h) (t : teM h T N) (e7 : h.2.2.2 109 7 = (p : Int)) (hp : p ≤ N) (H : ∀ g, wf g → fr [] [(109, 6), (109, 7), (109, 9), (109, 10)] h g → g.2.2.2 109 6 = (tkS T N p : Int) → g.2.2.2 109 7 = (tkE T N p : Int) → g.2.2.2 109 9 = tkK T N p → g.2.2.2 109 10 = tkN T N p (h.2.2.2 109 10) → Q none g) : am_R (am_prog scr) (d + 6) f_M_next 0 [some (.inr (.inr ((109 : Nat) : Int))), none] [] h Q := by
  have tN := t.1
  -- at the token's begin
  have at_ : ∀ (s : Nat) (g : am_H), s = tkS T N p → s ≤ N → ¬ (s < N ∧ (T s = 10 ∨ T s = 32)) → wf g → teM g T N → fr [] [(109, 6), (109, 7), (109, 9), (109, 10)] h g → g.2.2.2 109 6 = (s : Int) → g.2.2.2 109 10 = h.2.2.2 109 10 → am_R (am_prog scr) (d + 6) f_M_next 8 [some (.inr (.inr ((109 : Nat) : Int))), none] [] g Q := by
    intro s g es hsN no wg tg fg e6 e10
    unfold tkE tkK tkN at H
    unfold tkE at H
    rw [← es] at H
    refine w_M_next_8 hs wg ?_
    rw [e6]
    refine k_see hs wg tg (by omega) ⟨_, rfl, wg, fun c => ?_, fun _ => ?_⟩
    · exfalso
      rw [Int.toNat_natCast] at c
      by_cases q : (s : Int) < (N : Int)
      · rw [if_pos q] at c; exact no ⟨by omega, Or.inl c⟩
      · rw [if_neg q] at c; omega
    rw [e6]
    refine k_see hs wg tg (by omega) ⟨_, rfl, wg, fun _ h6 q6 => ?_, fun c => ?_⟩
    · rw [e6] at q6
      have w6 : wf h6 := by rw [q6]; exact wg.put np_109_7
      have f6 : fr [] [(109, 6), (109, 7), (109, 9), (109, 10)] g h6 := by rw [q6]; exact fr.rfl.put (Or.inr (by decide))
      have t6 := tg.fr f6
      have a6 : h6.2.2.2 109 6 = (s : Int) := by rw [q6, put_ne (by omega)]; exact e6
      have a7 : h6.2.2.2 109 7 = (s : Int) := by rw [q6, put_eq]
      have a10 : h6.2.2.2 109 10 = h.2.2.2 109 10 := by rw [q6, put_ne (by omega)]; exact e10
      rw [a6, t6.2.1]
      refine ⟨fun c => ?_, fun c h20 q20 => ?_⟩
      · have lt : s < N := by omega
        refine k_see hs w6 t6 (by omega) ⟨_, rfl, w6, ?_⟩
        rw [Int.toNat_natCast, if_pos (by omega)]
        refine k_isSmall hs w6 ⟨_, rfl, w6, fun c1 => ?_, fun c1 => ?_⟩
        · rw [i0] at c1
          rw [a6]
          refine k_see hs w6 t6 (by omega) ⟨_, rfl, w6, ?_⟩
          rw [Int.toNat_natCast, if_pos (by omega)]
          refine k_isDigit hs w6 ⟨_, rfl, w6, fun c2 h15 q15 h16 q16 => ?_, fun c2 h17 q17 => ?_⟩
          · rw [i0] at c2
            rw [a7, am_w_id (by omega) (by omega)] at q15
            have w16 : wf h16 := by rw [q16, q15]; exact (w6.put np_109_7).put np_109_9
            have f16 : fr [] [(109, 6), (109, 7), (109, 9), (109, 10)] h6 h16 := by rw [q16, q15]; exact (fr.rfl.put (Or.inr (by decide))).put (Or.inr (by decide))
            have b6 : h16.2.2.2 109 6 = (s : Int) := by rw [q16, put_ne (by omega), q15, put_ne (by omega)]; exact a6
            have b7 : h16.2.2.2 109 7 = ((s + 1 : Nat) : Int) := by rw [q16, put_ne (by omega), q15, put_eq]; omega
            have b10 : h16.2.2.2 109 10 = h.2.2.2 109 10 := by rw [q16, put_ne (by omega), q15, put_ne (by omega)]; exact a10
            refine k_next_254 (h := h16) hs lt (fun g2 w2 f2 z6 z7 z10 z9 => ?_) 12 0 h16 rfl w16 (t6.fr f16) fr.rfl b6 (by rw [q16, put_eq]; rfl)
            rw [if_pos lt, if_neg c1, if_neg c2, if_pos lt, if_neg c1, if_neg c2, if_neg (fun z => c2 z.2.2)] at H
            exact H g2 w2 ((fg.trans f6).trans (f16.trans f2)) (z6.trans b6) (z7.trans b7) z9 (z10.trans b10)
          · rw [i0, Decidable.not_not] at c2
            have w17 : wf h17 := by rw [q17]; exact w6.put np_109_10
            have f17 : fr [] [(109, 6), (109, 7), (109, 9), (109, 10)] h6 h17 := by rw [q17]; exact fr.rfl.put (Or.inr (by decide))
            have eb := dgF_b (T := T) (N := N) 900 s
            rw [if_pos lt, if_neg c1, if_pos c2, if_pos lt, if_neg c1, if_pos c2, if_pos (show s < N ∧ ¬ (97 ≤ T s ∧ T s ≤ 122) ∧ (48 ≤ T s ∧ T s ≤ 57) from ⟨lt, c1, c2⟩)] at H
            refine k_next_146 (h := h17) (s := s) (E := dgF T N 900 s) hs ⟨eb.1, eb.2 hsN⟩ (fun g2 w2 f2 z6 z7 z10 z9 => ?_) 900 s h17 (by omega) rfl (Nat.le_refl _) hsN w17 (t6.fr f17) fr.rfl (by rw [q17, put_ne (by omega)]; exact a6) (by rw [q17, put_ne (by omega)]; exact a7) (by rw [q17, put_eq, Nat.sub_self]; rfl)
            exact H g2 w2 ((fg.trans f6).trans (f17.trans f2)) z6 z7 z9 z10
        · rw [i0, Decidable.not_not] at c1
          have eb := wdF_b (T := T) (N := N) 900 s
          rw [if_pos lt, if_pos c1, if_pos lt, if_pos c1, if_neg (fun z => z.2.1 c1)] at H
          refine k_next_89 (h := h6) (s := s) (E := wdF T N 900 s) hs ⟨eb.1, eb.2 hsN⟩ (fun g2 w2 f2 z6 z7 z10 z9 => ?_) 900 s h6 (by omega) rfl (Nat.le_refl _) hsN w6 t6 fr.rfl a6 a7 rfl
          exact H g2 w2 ((fg.trans f6).trans f2) z6 z7 z9 (z10.trans a10)
      · have ge : ¬ s < N := by omega
        have f20 : fr [] [(109, 6), (109, 7), (109, 9), (109, 10)] h6 h20 := by rw [q20]; exact fr.rfl.put (Or.inr (by decide))
        rw [if_neg ge, if_neg ge, if_neg (fun z => ge z.1)] at H
        exact H h20 (by rw [q20]; exact w6.put np_109_9) ((fg.trans f6).trans f20) (by rw [q20, put_ne (by omega)]; exact a6) (by rw [q20, put_ne (by omega)]; exact a7) (by rw [q20, put_eq]) (by rw [q20, put_ne (by omega)]; exact a10)
    · exfalso
      rw [Int.toNat_natCast] at c
      by_cases q : (s : Int) < (N : Int)
      · rw [if_pos q] at c; exact no ⟨by omega, Or.inr c⟩
      · rw [if_neg q] at c; omega
  have lp : ∀ (m q : Nat) (g : am_H), N ≤ q + m → spF T N m q = tkS T N p → q ≤ N → wf g → teM g T N → fr [] [(109, 6), (109, 7), (109, 9), (109, 10)] h g → g.2.2.2 109 6 = (q : Int) → g.2.2.2 109 10 = h.2.2.2 109 10 → am_R (am_prog scr) (d + 6) f_M_next 8 [some (.inr (.inr ((109 : Nat) : Int))), none] [] g Q := by
    intro m
    induction m with
    | zero =>
      intro q g hm hq h2 wg tg fg e6 e10
      simp only [spF] at hq
      exact at_ q g hq h2 (fun z => by omega) wg tg fg e6 e10
    | succ m ih =>
      intro q g hm hq h2 wg tg fg e6 e10
      simp only [spF] at hq
      by_cases c0 : q < N ∧ (T q = 10 ∨ T q = 32)
      · rw [if_pos c0] at hq
        have nxt : ∀ h3 : am_H, h3 = am_put g 109 6 (am_w ((q : Int) + 1)) → am_R (am_prog scr) (d + 6) f_M_next 8 [some (.inr (.inr ((109 : Nat) : Int))), none] [] h3 Q := by
          intro h3 q3
          rw [am_w_id (by omega) (by omega)] at q3
          have f3 : fr [] [(109, 6), (109, 7), (109, 9), (109, 10)] g h3 := by rw [q3]; exact fr.rfl.put (Or.inr (by decide))
          exact ih (q + 1) h3 (by omega) hq (by omega) (by rw [q3]; exact wg.put np_109_6) (tg.fr f3) (fg.trans f3) (by rw [q3, put_eq]; omega) (by rw [q3, put_ne (by omega)]; exact e10)
        refine w_M_next_8 hs wg ?_
        rw [e6]
        refine k_see hs wg tg (by omega) ⟨_, rfl, wg, fun c => ?_, fun c => ?_⟩
        · rw [e6]; exact nxt
        · rw [Int.toNat_natCast, if_pos (by omega)] at c
          rw [e6]
          refine k_see hs wg tg (by omega) ⟨_, rfl, wg, fun c2 => ?_, fun c2 => ?_⟩
          · exfalso
            rw [Int.toNat_natCast, if_pos (by omega)] at c2
            rcases c0.2 with z | z
            · exact c z
            · exact c2 z
          · rw [e6]; exact nxt
      · rw [if_neg c0] at hq
        exact at_ q g hq h2 c0 wg tg fg e6 e10
  refine w_M_next_0 hs hw (fun h1 q1 => ?_)
  rw [e7] at q1
  have f1 : fr [] [(109, 6), (109, 7), (109, 9), (109, 10)] h h1 := by rw [q1]; exact fr.rfl.put (Or.inr (by decide))
  exact lp 900 p h1 (by omega) rfl hp (by rw [q1]; exact hw.put np_109_6) (t.fr f1) f1 (by rw [q1, put_eq]) (by rw [q1, put_ne (by omega)])
end NG
