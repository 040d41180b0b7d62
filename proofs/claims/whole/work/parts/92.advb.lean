/-! the next token: the class, numbers -/
section AE
variable {scr : Nat × (Nat → Int)} {d : Nat} {h : am_H} {Q : Option am_V → am_H → Prop} {T : Nat → Int} {N : Nat}
theorem k_adv_181 {x1 : Int} {s E : Nat} (hs : am_sc scr) (K : ∀ g, wf g → fr [] ADF h g → g.2.2.2 3 3 = (s : Int) → g.2.2.2 3 4 = (E : Int) → g.2.2.2 3 2 = (if E ≤ s + 3 then 1 else 3) → g.2.2.2 3 5 = dvF T s (E - s) → Q none g) : ∀ (m e : Nat) (g : am_H), N ≤ e + m → dgF T N m e = E → s ≤ e → e ≤ N → wf g → teC g T N → fr [] ADF h g → g.2.2.2 3 3 = (s : Int) → g.2.2.2 3 4 = (e : Int) → g.2.2.2 3 5 = dvF T s (e - s) → am_R (am_prog scr) (d + 1) f_Tokens_advance 181 [some (.inr (.inr (((3) : Nat) : Int))), some (.inl (x1))] [] g Q := by
  have stop : ∀ (e : Nat) (g : am_H), e = E → s ≤ e → e ≤ N → ¬ (e < N ∧ (48 ≤ T e ∧ T e ≤ 57)) → wf g → teC g T N → fr [] ADF h g → g.2.2.2 3 3 = (s : Int) → g.2.2.2 3 4 = (e : Int) → g.2.2.2 3 5 = dvF T s (e - s) → am_R (am_prog scr) (d + 1) f_Tokens_advance 181 [some (.inr (.inr (((3) : Nat) : Int))), some (.inl (x1))] [] g Q := by
    intro e g he hse hN no wg t fg e3 e4 e5
    have tN := t.1
    have done : am_R (am_prog scr) (d + 1) f_Tokens_advance 277 [some (.inr (.inr (((3) : Nat) : Int))), some (.inl (x1))] [] g Q := by
      refine w_Tokens_advance_277 hs wg ?_
      rw [e3, e4, am_w_id (x := (e : Int) - (s : Int)) (by omega) (by omega)]
      refine ⟨fun c h1 q1 => ?_, fun c h1 q1 => ?_⟩
      · have f1 : fr [] ADF g h1 := by rw [q1]; exact fr.rfl.put (Or.inr (by decide))
        exact K h1 (by rw [q1]; exact wg.put np_3_2) (fg.trans f1) (by rw [q1, put_ne (by omega)]; exact e3) (by rw [q1, put_ne (by omega), e4, he]) (by rw [q1, put_eq, if_pos (by omega)]) (by rw [q1, put_ne (by omega), e5, he])
      · have f1 : fr [] ADF g h1 := by rw [q1]; exact fr.rfl.put (Or.inr (by decide))
        exact K h1 (by rw [q1]; exact wg.put np_3_2) (fg.trans f1) (by rw [q1, put_ne (by omega)]; exact e3) (by rw [q1, put_ne (by omega), e4, he]) (by rw [q1, put_eq, if_neg (by omega)]) (by rw [q1, put_ne (by omega), e5, he])
    refine w_Tokens_advance_181 hs wg ?_
    rw [e4, t.2.2.1]
    refine ⟨fun _ => done, fun c => ?_⟩
    obtain ⟨a1, a2, a3⟩ := t.at wg (k := e) (by omega)
    refine ⟨a1, fun _ => done, fun c2 => ⟨a1, fun _ => done, fun c3 => ?_⟩⟩
    exfalso
    exact no ⟨by omega, by omega⟩
  intro m
  induction m with
  | zero =>
    intro e g hm hq h1 h2 wg t fg e3 e4 e5
    simp only [dgF] at hq
    exact stop e g hq h1 h2 (fun z => by omega) wg t fg e3 e4 e5
  | succ m ih =>
    intro e g hm hq h1 h2 wg t fg e3 e4 e5
    simp only [dgF] at hq
    by_cases q : e < N ∧ (48 ≤ T e ∧ T e ≤ 57)
    · rw [if_pos q] at hq
      have tN := t.1
      obtain ⟨a1, a2, a3⟩ := t.at wg (k := e) q.1
      have db := dvF_b (T := T) (s := s) (fun k _ => t.2.2.2.2 (s + k)) (e - s)
      have ds : dvF T s (e + 1 - s) = if e - s < 3 then 10 * dvF T s (e - s) + T e - 48 else dvF T s (e - s) := by
        rw [show e + 1 - s = e - s + 1 by omega]
        simp only [dvF]
        rw [show s + (e - s) = e by omega]
      refine w_Tokens_advance_181 hs wg ?_
      rw [e4, t.2.2.1]
      refine ⟨fun c => by omega, fun _ => ⟨a1, fun c => by omega, fun _ => ⟨a1, fun c => by omega, fun _ => ?_⟩⟩⟩
      rw [e3, am_w_id (x := (e : Int) - (s : Int)) (by omega) (by omega)]
      refine ⟨fun c h3 q3 h4 q4 => ?_, fun c => ⟨a1, fun h6 q6 h7 q7 => ?_⟩⟩
      · have n4 : h3.2.2.2 3 4 = (e : Int) := by rw [q3, put_ne (by omega)]; exact e4
        rw [n4, am_w_id (by omega) (by omega)] at q4
        have f4 : fr [] ADF g h4 := by rw [q4, q3]; exact (fr.rfl.put (Or.inr (by decide))).put (Or.inr (by decide))
        refine ih (e + 1) h4 (by omega) hq (by omega) (by omega) (by rw [q4, q3]; exact (wg.put np_3_5).put np_3_4) (t.fr f4) (fg.trans f4) (by rw [q4, put_ne (by omega), q3, put_ne (by omega)]; exact e3) (by rw [q4, put_eq]; omega) ?_
        rw [q4, put_ne (by omega), q3, put_eq, e5, ds, if_neg (by omega)]
      · have n4 : h6.2.2.2 3 4 = (e : Int) := by rw [q6, put_ne (by omega)]; exact e4
        rw [n4, am_w_id (by omega) (by omega)] at q7
        rw [e5, am_w_id (x := dvF T s (e - s) * 10) (by omega) (by omega), am_w_id (x := dvF T s (e - s) * 10 + _) (by omega) (by omega), am_w_id (by omega) (by omega)] at q6
        have f7 : fr [] ADF g h7 := by rw [q7, q6]; exact (fr.rfl.put (Or.inr (by decide))).put (Or.inr (by decide))
        refine ih (e + 1) h7 (by omega) hq (by omega) (by omega) (by rw [q7, q6]; exact (wg.put np_3_5).put np_3_4) (t.fr f7) (fg.trans f7) (by rw [q7, put_ne (by omega), q6, put_ne (by omega)]; exact e3) (by rw [q7, put_eq]; omega) ?_
        rw [q7, put_ne (by omega), q6, put_eq, ds, if_pos (by omega)]
        omega
    · rw [if_neg q] at hq
      exact stop e g hq h1 h2 q wg t fg e3 e4 e5
end AE
