/-! the next token: the reference, numbers, signs -/
section NF
variable {scr : Nat × (Nat → Int)} {d : Nat} {h : am_H} {Q : Option am_V → am_H → Prop} {T : Nat → Int} {N : Nat}
theorem k_next_146 {s E : Nat} (hs : am_sc scr) (hE : s ≤ E ∧ E ≤ N) (K : ∀ g, wf g → fr [] [(109, 6), (109, 7), (109, 9), (109, 10)] h g → g.2.2.2 109 6 = (s : Int) → g.2.2.2 109 7 = (E : Int) → g.2.2.2 109 10 = dvF T s (E - s) → g.2.2.2 109 9 = (if E ≤ s + 3 then 25 else 27) → Q none g) : ∀ (m e : Nat) (g : am_H), N ≤ e + m → dgF T N m e = E → s ≤ e → e ≤ N → wf g → teM g T N → fr [] [(109, 6), (109, 7), (109, 9), (109, 10)] h g → g.2.2.2 109 6 = (s : Int) → g.2.2.2 109 7 = (e : Int) → g.2.2.2 109 10 = dvF T s (e - s) → am_R (am_prog scr) (d + 6) f_M_next 146 [some (.inr (.inr ((109 : Nat) : Int))), none] [] g Q := by
  have stop : ∀ (e : Nat) (g : am_H), e = E → ¬ (e < N ∧ (48 ≤ T e ∧ T e ≤ 57)) → wf g → teM g T N → fr [] [(109, 6), (109, 7), (109, 9), (109, 10)] h g → g.2.2.2 109 6 = (s : Int) → g.2.2.2 109 7 = (e : Int) → g.2.2.2 109 10 = dvF T s (e - s) → am_R (am_prog scr) (d + 6) f_M_next 146 [some (.inr (.inr ((109 : Nat) : Int))), none] [] g Q := by
    intro e g he no wg t fg e6 e7 e10
    have tN := t.1
    refine w_M_next_146 hs wg ?_
    rw [e7]
    refine k_see hs wg t (by omega) ⟨_, rfl, wg, k_isDigit hs wg ⟨_, rfl, wg, fun _ => ?_, fun c => ?_⟩⟩
    · rw [e7, e6, am_w_id (x := (e : Int) - (s : Int)) (by omega) (by omega)]
      refine ⟨fun c h5 q5 => ?_, fun c h5 q5 => ?_⟩
      · have f5 : fr [] [(109, 6), (109, 7), (109, 9), (109, 10)] g h5 := by rw [q5]; exact fr.rfl.put (Or.inr (by decide))
        exact K h5 (by rw [q5]; exact wg.put np_109_9) (fg.trans f5) (by rw [q5, put_ne (by omega)]; exact e6) (by rw [q5, put_ne (by omega), e7, he]) (by rw [q5, put_ne (by omega), e10, he]) (by rw [q5, put_eq, if_pos (by omega)])
      · have f5 : fr [] [(109, 6), (109, 7), (109, 9), (109, 10)] g h5 := by rw [q5]; exact fr.rfl.put (Or.inr (by decide))
        exact K h5 (by rw [q5]; exact wg.put np_109_9) (fg.trans f5) (by rw [q5, put_ne (by omega)]; exact e6) (by rw [q5, put_ne (by omega), e7, he]) (by rw [q5, put_ne (by omega), e10, he]) (by rw [q5, put_eq, if_neg (by omega)])
    · exfalso
      rw [i0, Decidable.not_not, Int.toNat_natCast] at c
      by_cases q : (e : Int) < (N : Int)
      · rw [if_pos q] at c; exact no ⟨by omega, c⟩
      · rw [if_neg q] at c; omega
  intro m
  induction m with
  | zero =>
    intro e g hm hw2 h1 h2 wg t fg e6 e7 e10
    simp only [dgF] at hw2
    exact stop e g hw2 (fun z => by omega) wg t fg e6 e7 e10
  | succ m ih =>
    intro e g hm hw2 h1 h2 wg t fg e6 e7 e10
    simp only [dgF] at hw2
    by_cases q : e < N ∧ (48 ≤ T e ∧ T e ≤ 57)
    · rw [if_pos q] at hw2
      have tN := t.1
      have db := dvF_b (T := T) (s := s) (fun k _ => t.2.2.2 (s + k)) (e - s)
      have ds : dvF T s (e + 1 - s) = if e - s < 3 then 10 * dvF T s (e - s) + T e - 48 else dvF T s (e - s) := by
        rw [show e + 1 - s = e - s + 1 by omega]
        simp only [dvF]
        rw [show s + (e - s) = e by omega]
      refine w_M_next_146 hs wg ?_
      rw [e7]
      refine k_see hs wg t (by omega) ⟨_, rfl, wg, k_isDigit hs wg ⟨_, rfl, wg, fun c => ?_, fun _ => ?_⟩⟩
      · exfalso
        rw [Int.toNat_natCast, i0, if_pos (by omega)] at c
        exact c q.2
      · rw [e7, e6, am_w_id (x := (e : Int) - (s : Int)) (by omega) (by omega)]
        refine ⟨fun c h8 q8 => ?_, fun c => ?_⟩
        · rw [am_w_id (by omega) (by omega)] at q8
          have f8 : fr [] [(109, 6), (109, 7), (109, 9), (109, 10)] g h8 := by rw [q8]; exact fr.rfl.put (Or.inr (by decide))
          exact ih (e + 1) h8 (by omega) hw2 (by omega) (by omega) (by rw [q8]; exact wg.put np_109_7) (t.fr f8) (fg.trans f8) (by rw [q8, put_ne (by omega)]; exact e6) (by rw [q8, put_eq]; omega) (by rw [q8, put_ne (by omega), e10, ds, if_neg (by omega)])
        · refine k_see hs wg t (by omega) ⟨_, rfl, wg, fun h11 q11 h12 q12 => ?_⟩
          rw [Int.toNat_natCast, if_pos (by omega), e10, am_w_id (x := 10 * dvF T s (e - s)) (by omega) (by omega), am_w_id (x := 10 * dvF T s (e - s) + T e) (by omega) (by omega), am_w_id (by omega) (by omega)] at q11
          have n7 : h11.2.2.2 109 7 = (e : Int) := by rw [q11, put_ne (by omega)]; exact e7
          rw [n7, am_w_id (by omega) (by omega)] at q12
          have f12 : fr [] [(109, 6), (109, 7), (109, 9), (109, 10)] g h12 := by rw [q12, q11]; exact (fr.rfl.put (Or.inr (by decide))).put (Or.inr (by decide))
          refine ih (e + 1) h12 (by omega) hw2 (by omega) (by omega) (by rw [q12, q11]; exact (wg.put np_109_10).put np_109_7) (t.fr f12) (fg.trans f12) ?_ (by rw [q12, put_eq]; omega) ?_
          · rw [q12, put_ne (by omega), q11, put_ne (by omega)]; exact e6
          · rw [q12, put_ne (by omega), q11, put_eq, ds, if_pos (by omega)]
    · rw [if_neg q] at hw2
      exact stop e g hw2 q wg t fg e6 e7 e10
theorem k_next_254 {s : Nat} (hs : am_sc scr) (hsN : s < N) (K : ∀ g, wf g → fr [] [(109, 6), (109, 7), (109, 9), (109, 10)] h g → g.2.2.2 109 6 = h.2.2.2 109 6 → g.2.2.2 109 7 = h.2.2.2 109 7 → g.2.2.2 109 10 = h.2.2.2 109 10 → g.2.2.2 109 9 = sgF (T s) 12 → Q none g) : ∀ (m k : Nat) (g : am_H), k + m = 12 → wf g → teM g T N → fr [] [(109, 9)] h g → h.2.2.2 109 6 = (s : Int) → g.2.2.2 109 9 = sgF (T s) k → am_R (am_prog scr) (d + 6) f_M_next 254 [some (.inr (.inr ((109 : Nat) : Int))), some (.inl ((k : Int)))] [] g Q := by
  obtain ⟨l38, _⟩ := sg_t
  intro m
  induction m with
  | zero =>
    intro k g hk wg t fg e6 e9
    refine w_M_next_254 hs wg ?_
    refine k_len (j := 38) hs wg (by omega) (by omega) ⟨_, rfl, wg, fun _ => ?_, fun c => by omega⟩
    rw [show k = 12 by omega] at e9
    exact K g wg (fg.mono (by simp) (by decide)) (fg.f 109 6 (by simp) (by decide)) (fg.f 109 7 (by simp) (by decide)) (fg.f 109 10 (by simp) (by decide)) e9
  | succ m ih =>
    intro k g hk wg t fg e6 e9
    have g6 : g.2.2.2 109 6 = (s : Int) := (fg.f 109 6 (by simp) (by decide)).trans e6
    refine w_M_next_254 hs wg ?_
    refine k_len (j := 38) hs wg (by omega) (by omega) ⟨_, rfl, wg, fun c => by omega, fun _ => ?_⟩
    rw [g6]
    refine k_see hs wg t (by omega) ⟨_, rfl, wg, ?_⟩
    rw [Int.toNat_natCast, if_pos (by omega)]
    refine k_chr (j := 38) hs wg (by omega) (by omega) (by omega) ⟨_, rfl, wg, fun c y hy => ?_, fun c h8 q8 y hy => ?_⟩
    · rw [Int.toNat_natCast] at c
      rw [am_w_id (by omega) (by omega)] at hy
      obtain rfl : y = ((k + 1 : Nat) : Int) := by omega
      refine ih (k + 1) g (by omega) wg t fg e6 ?_
      simp only [sgF]
      rw [if_neg c]; exact e9
    · rw [Int.toNat_natCast] at c
      rw [am_w_id (by omega) (by omega)] at hy
      obtain rfl : y = ((k + 1 : Nat) : Int) := by omega
      rw [am_w_id (by omega) (by omega)] at q8
      have f8 : fr [] [(109, 9)] g h8 := by rw [q8]; exact fr.rfl.put (Or.inr (by decide))
      refine ih (k + 1) h8 (by omega) (by rw [q8]; exact wg.put np_109_9) (t.fr (f8.mono (by simp) (by decide))) (fg.trans f8) e6 ?_
      rw [q8, put_eq]
      simp only [sgF]
      rw [if_pos c]
end NF
