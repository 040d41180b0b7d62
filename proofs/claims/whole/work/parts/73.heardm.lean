/-! what was heard: by whom, suspects, the reference -/
section HM2
variable {scr : Nat × (Nat → Int)} {d : Nat} {h : am_H} {Q : Option am_V → am_H → Prop} {a : Nat → Int} {f : Nat → (Nat → Int) → Int} {B : Int} {num : Nat → Int} {n : Nat} {t : Int}
theorem k_hby_55 {g : am_H} {x3 : Int} {i : Nat} (hs : am_sc scr) (wg : wf g) (r : rok a f B) (ht : 0 ≤ t ∧ t ≤ 3) (x : msP g a f) (on : ∀ i, i ≤ n → onP g a f num n i) (k6 : ∀ i, i < n → numM g t i = num i) (hn : n ≤ 8) (hi : i < n) : ∀ (k j : Nat) (st : Int), j + k = i → Rch a f st → 0 < hN a f num n (n - j) st → Q (some (.inl ((hBy a f num n k (n - (j + 1)) st : Int)))) g → am_R (am_prog scr) (d + 2) f_M_heardBy 55 [some (.inr (.inr ((109 : Nat) : Int))), some (.inl (t)), some (.inl ((i : Int))), some (.inl (x3)), some (.inl (st)), some (.inl ((j : Int))), none] [] g Q := by
  have h4 := r.1.1
  intro k
  induction k with
  | zero =>
    intro j st hj hr hp HQ
    have so := (hr.ok r).1
    have hp2 := hp
    rw [show n - j = n - (j + 1) + 1 by omega] at hp2
    obtain ⟨no, e1, e2⟩ := hN_pos r hp2
    simp only [hBy] at HQ
    refine w_M_heardBy_55 hs wg ?_
    have lp : ∀ (p e : Nat), e + p = 7 → lsT (hpB a f num n (n - (j + 1)) st) p e = hFd a f num n (n - (j + 1)) st → am_R (am_prog scr) (d + 2) f_M_heardBy 58 [some (.inr (.inr ((109 : Nat) : Int))), some (.inl (t)), some (.inl ((i : Int))), some (.inl (x3)), some (.inl (st)), some (.inl ((j : Int))), some (.inl ((e : Int)))] [] g Q := by
      intro p
      induction p with
      | zero => intro e he hl; simp only [lsT] at hl; omega
      | succ p ih =>
        intro e he hl
        simp only [lsT] at hl
        have t7 := x.2.2.2.2 _ hr e (by omega)
        have nxt : ¬ hpB a f num n (n - (j + 1)) st e = true → ∀ y, y = am_w ((e : Int) + 1) → am_R (am_prog scr) (d + 2) f_M_heardBy 58 [some (.inr (.inr ((109 : Nat) : Int))), some (.inl (t)), some (.inl ((i : Int))), some (.inl (x3)), some (.inl (st)), some (.inl ((j : Int))), some (.inl (y))] [] g Q := by
          intro c y hy
          rw [am_w_id (by omega) (by omega)] at hy
          obtain rfl : y = ((e + 1 : Nat) : Int) := by omega
          rw [if_neg c] at hl
          exact ih (e + 1) (by omega) hl
        refine w_M_heardBy_58 hs wg ?_
        rw [am_w_id (x := 7 * st) (by omega) (by omega), am_w_id (x := 7 * st + (e : Int)) (by omega) (by omega), t7]
        refine ⟨by omega, ?_⟩
        have tv := thV_r r hr e
        refine k_isHeard (num := num) hs wg ht (by omega) (by rw [Int.toNat_natCast]; exact k6 j (by omega)) (by omega) ⟨_, rfl, wg, fun c => ?_, fun c => ?_⟩
        · rw [Int.toNat_natCast, i0] at c
          refine nxt (fun z => c ?_)
          have z := hpB_t.mp z
          rw [show n - (n - (j + 1) + 1) = j by omega] at z
          rcases tv with q | ⟨q1, q2, q3, q4, q5⟩
          · unfold thV at q
            rw [if_pos ⟨no, z.1⟩] at q
            have := (Tr_ok r (deed := (e : Int)) (hr.ok r) no).1
            omega
          · exact ⟨by omega, by rw [q5]; exact z.2.1⟩
        · rw [Int.toNat_natCast, i0, Decidable.not_not] at c
          rcases tv with q | ⟨q1, q2, q3, q4, q5⟩
          · exact absurd q c.1
          · have on1 := on (j + 1) (by omega) _ q1
            rw [t7]
            rw [am_w_id (x := (j : Int) + 1) (by omega) (by omega), am_w_id (x := 360 * ((j : Int) + 1)) (by omega) (by omega), am_w_id (x := 360 * ((j : Int) + 1) + thV a f st e) (by omega) (by omega)]
            rw [show ((j + 1 : Nat) : Int) = (j : Int) + 1 by omega] at on1
            rw [on1, q5]
            refine ⟨by omega, by omega, fun c2 => ⟨fun c3 => by omega, fun c3 => ?_⟩, fun c2 => nxt (fun z => ?_)⟩
            · have hb := (hN_b (num := num) (n := n) r (n - (j + 1)) (Tr a f st (e : Int))).1
              have pb : hpB a f num n (n - (j + 1)) st e = true := hpB_t.mpr ⟨q4, by rw [show n - (n - (j + 1) + 1) = j by omega, ← q5]; exact c.2, by omega⟩
              rw [if_pos pb] at hl
              rw [← hl] at HQ
              exact HQ
            · have z := hpB_t.mp z
              omega
    exact lp 7 0 rfl rfl
  | succ k ihk =>
    intro j st hj hr hp HQ
    have so := (hr.ok r).1
    have hp2 := hp
    rw [show n - j = n - (j + 1) + 1 by omega] at hp2
    obtain ⟨no, e1, e2⟩ := hN_pos r hp2
    simp only [hBy] at HQ
    refine w_M_heardBy_55 hs wg ?_
    have lp : ∀ (p e : Nat), e + p = 7 → lsT (hpB a f num n (n - (j + 1)) st) p e = hFd a f num n (n - (j + 1)) st → am_R (am_prog scr) (d + 2) f_M_heardBy 58 [some (.inr (.inr ((109 : Nat) : Int))), some (.inl (t)), some (.inl ((i : Int))), some (.inl (x3)), some (.inl (st)), some (.inl ((j : Int))), some (.inl ((e : Int)))] [] g Q := by
      intro p
      induction p with
      | zero => intro e he hl; simp only [lsT] at hl; omega
      | succ p ih =>
        intro e he hl
        simp only [lsT] at hl
        have t7 := x.2.2.2.2 _ hr e (by omega)
        have nxt : ¬ hpB a f num n (n - (j + 1)) st e = true → ∀ y, y = am_w ((e : Int) + 1) → am_R (am_prog scr) (d + 2) f_M_heardBy 58 [some (.inr (.inr ((109 : Nat) : Int))), some (.inl (t)), some (.inl ((i : Int))), some (.inl (x3)), some (.inl (st)), some (.inl ((j : Int))), some (.inl (y))] [] g Q := by
          intro c y hy
          rw [am_w_id (by omega) (by omega)] at hy
          obtain rfl : y = ((e + 1 : Nat) : Int) := by omega
          rw [if_neg c] at hl
          exact ih (e + 1) (by omega) hl
        refine w_M_heardBy_58 hs wg ?_
        rw [am_w_id (x := 7 * st) (by omega) (by omega), am_w_id (x := 7 * st + (e : Int)) (by omega) (by omega), t7]
        refine ⟨by omega, ?_⟩
        have tv := thV_r r hr e
        refine k_isHeard (num := num) hs wg ht (by omega) (by rw [Int.toNat_natCast]; exact k6 j (by omega)) (by omega) ⟨_, rfl, wg, fun c => ?_, fun c => ?_⟩
        · rw [Int.toNat_natCast, i0] at c
          refine nxt (fun z => c ?_)
          have z := hpB_t.mp z
          rw [show n - (n - (j + 1) + 1) = j by omega] at z
          rcases tv with q | ⟨q1, q2, q3, q4, q5⟩
          · unfold thV at q
            rw [if_pos ⟨no, z.1⟩] at q
            have := (Tr_ok r (deed := (e : Int)) (hr.ok r) no).1
            omega
          · exact ⟨by omega, by rw [q5]; exact z.2.1⟩
        · rw [Int.toNat_natCast, i0, Decidable.not_not] at c
          rcases tv with q | ⟨q1, q2, q3, q4, q5⟩
          · exact absurd q c.1
          · have on1 := on (j + 1) (by omega) _ q1
            rw [t7]
            rw [am_w_id (x := (j : Int) + 1) (by omega) (by omega), am_w_id (x := 360 * ((j : Int) + 1)) (by omega) (by omega), am_w_id (x := 360 * ((j : Int) + 1) + thV a f st e) (by omega) (by omega)]
            rw [show ((j + 1 : Nat) : Int) = (j : Int) + 1 by omega] at on1
            rw [on1, q5]
            refine ⟨by omega, by omega, fun c2 => ⟨fun c3 => ⟨by omega, fun y8 h8 y9 h9 => ?_⟩, fun c3 => by omega⟩, fun c2 => nxt (fun z => ?_)⟩
            · have hb := (hN_b (num := num) (n := n) r (n - (j + 1)) (Tr a f st (e : Int))).1
              have pb : hpB a f num n (n - (j + 1)) st e = true := hpB_t.mpr ⟨q4, by rw [show n - (n - (j + 1) + 1) = j by omega, ← q5]; exact c.2, by omega⟩
              rw [if_pos pb] at hl
              rw [← hl] at HQ
              obtain rfl : y9 = ((j + 1 : Nat) : Int) := by omega
              subst h8
              rw [q5] at q1
              refine ihk (j + 1) _ (by omega) q1 (by omega) ?_
              rw [show n - (j + 1 + 1) = n - (j + 1) - 1 by omega]
              exact HQ
            · have z := hpB_t.mp z
              omega
    exact lp 7 0 rfl rfl
theorem k_MheardBy {i : Int} (hs : am_sc scr) (hw : wf h) (ha : h.2.2.2 110 = a) (r : rok a f B) (ht : (0 ≤ t ∧ t ≤ 3) → h.2.2.2 130 t.toNat ≠ -1 → trM h t n num) (H : ∀ g, wf g → fr [114, 115, 119, 120, 123, 128] [(109, 0), (109, 29)] h g → Q (some (.inl (if 0 ≤ t ∧ t ≤ 3 then (if h.2.2.2 130 t.toNat = -1 then -6 else q_heardBy a f num n i) else -2))) g) : am_R (am_prog scr) (d + 7) f_M_heardBy 0 [some (.inr (.inr ((109 : Nat) : Int))), some (.inl (t)), some (.inl (i)), none, none, none, none] [] h Q := by
  refine w_M_heardBy_0 hs hw (fun g1 q1 => ?_)
  have w1 : wf g1 := by rw [q1]; exact (put0 hw).1
  have f0 : fr [] [(109, 0)] h g1 := by rw [q1]; exact (put0 hw).2
  have a1 : g1.2.2.2 110 = a := (f0.c 110 (by simp) (by decide)).trans ha
  have f1 : fr [114, 115, 119, 120, 123, 128] [(109, 0), (109, 29)] h g1 := f0.mono (by simp) (by decide)
  have s1 : g1.2.2.2 130 = h.2.2.2 130 := f0.c 130 (by simp) (by decide)
  have t1 : (0 ≤ t ∧ t ≤ 3) → g1.2.2.2 130 t.toNat ≠ -1 → trM g1 t n num := by
    intro c1 c2
    obtain ⟨z1, z2, z3⟩ := ht c1 (by rw [← s1]; exact c2)
    refine ⟨z1, by rw [f0.c 131 (by simp) (by decide)]; exact z2, fun i hi => ?_⟩
    unfold numM
    rw [f0.c 132 (by simp) (by decide)]; exact z3 i hi
  unfold q_heardBy at H
  refine k_noHeard hs w1 a1 r t1 ⟨_, rfl, w1, fun c => ?_, fun c => ?_⟩
  · rw [s1] at c
    have c3 : 0 ≤ t ∧ t ≤ 3 := by
      apply Decidable.byContradiction; intro q; rw [if_neg q] at c; omega
    rw [if_pos c3] at c H
    have c4 : h.2.2.2 130 t.toNat ≠ -1 := by
      intro q; rw [if_pos q] at c; omega
    rw [if_neg c4] at c H
    rw [if_pos c] at H
    have nb : 1 ≤ n ∧ n ≤ 8 := by
      apply Decidable.byContradiction; intro q; unfold rfH at c; rw [if_neg q] at c; omega
    have tr := t1 c3 (by rw [s1]; exact c4)
    refine ⟨fun c5 => ?_, fun c5 => ?_⟩
    · rw [if_neg c5] at H
      refine k_laysHeard hs w1 a1 r c3 tr nb (fun g wg fg x on => ⟨_, rfl, wg, fun c6 => ?_, fun c6 => ⟨by omega, ?_⟩⟩)
      · rw [if_pos c6] at H
        exact H g wg (f1.trans (fg.mono (by decide) (by decide)))
      · rw [if_neg c6] at H
        rw [fg.c 131 (by decide) (by decide), tr.2.1]
        refine ⟨fun c7 => ?_, fun c7 => ?_⟩
        · rw [if_pos c7] at H
          refine k_standNowA hs wg ((fg.c 110 (by decide) (by decide)).trans a1) r ⟨_, rfl, wg, ?_⟩
          have hb := (hN_b (num := num) (n := n) r n (stA a)).1
          obtain ⟨i', rfl⟩ : ∃ i' : Nat, i = i' := ⟨i.toNat, by omega⟩
          rw [Int.toNat_natCast] at H
          refine k_hby_55 (x3 := _) hs wg r c3 x on (fun j hj => by unfold numM; rw [fg.c 132 (by decide) (by decide)]; exact tr.2.2 j hj) nb.2 (by omega) i' 0 (stA a) (by omega) Rch.zero (by rw [Nat.sub_zero]; omega) ?_
          exact H g wg (f1.trans (fg.mono (by decide) (by decide)))
        · rw [if_neg c7] at H
          exact H g wg (f1.trans (fg.mono (by decide) (by decide)))
    · rw [if_pos c5] at H
      exact H g1 w1 f1
  · rw [s1] at c ⊢
    have HH := H g1 w1 f1
    by_cases c3 : 0 ≤ t ∧ t ≤ 3
    · rw [if_pos c3] at c HH ⊢
      by_cases c4 : h.2.2.2 130 t.toNat = -1
      · rw [if_pos c4] at HH ⊢; exact HH
      · rw [if_neg c4] at c HH ⊢
        rw [if_neg c] at HH
        exact HH
    · rw [if_neg c3] at HH ⊢; exact HH
/-- stands met, as the reference keeps them -/
def mnP (g : am_H) (a : Nat → Int) (f : Nat → (Nat → Int) → Int) (num : Nat → Int) (n j : Nat) : Prop := ∀ s : Nat, s < 360 → (0 < g.2.2.2 124 s ↔ mtP a f num n j (s : Int))
/-- those gone through, of stands before k, and of stand k the deeds before e -/
def gtP (b : am_H) (a : Nat → Int) (f : Nat → (Nat → Int) → Int) (num : Nat → Int) (n j k e : Nat) (s : Int) : Prop := ∃ k' e' : Nat, ((k' < k ∧ e' < 7) ∨ (k' = k ∧ e' < e)) ∧ mtP a f num n j (b.2.2.2 119 k') ∧ thV a f (b.2.2.2 119 k') e' = s ∧ s ≠ -1 ∧ hdB num j s = true ∧ 0 < hN a f num n (n - (j + 1)) s
theorem k_sus_69 {b : am_H} {x2 x3 x4 : Int} {j : Nat} (hs : am_sc scr) (r : rok a f B) (ht : 0 ≤ t ∧ t ≤ 3) (x : msP b a f) (on : ∀ i, i ≤ n → onP b a f num n i) (k6 : ∀ i, i < n → numM b t i = num i) (hn : n ≤ 8) (hj : j < n) (mt : mnP b a f num n j) (K : ∀ g, wf g → fr [125] [] b g → (∀ s : Nat, s < 360 → (0 < g.2.2.2 125 s ↔ mtP a f num n (j + 1) (s : Int))) → am_R (am_prog scr) (d + 1) f_M_isThen 0 [some (.inr (.inr ((109 : Nat) : Int))), none] [] g (fun v g1 => v = none ∧ wf g1 ∧ (∀ y2 : Int, y2 = am_w ((j : Int) + 1) → (am_R (am_prog scr) (d + 2) f_M_suspects 60 [some (.inr (.inr ((109 : Nat) : Int))), some (.inl (t)), some (.inl (x2)), some (.inl (x3)), some (.inl (x4)), some (.inl (y2)), none, none, none] [] g1 Q)))) : ∀ (m k : Nat) (g : am_H), (k : Int) + m = b.2.2.2 109 29 → wf g → fr [125] [] b g → (∀ s : Nat, s < 360 → (0 < g.2.2.2 125 s ↔ gtP b a f num n j k 0 (s : Int))) → am_R (am_prog scr) (d + 2) f_M_suspects 69 [some (.inr (.inr ((109 : Nat) : Int))), some (.inl (t)), some (.inl (x2)), some (.inl (x3)), some (.inl (x4)), some (.inl ((j : Int))), some (.inl ((k : Int))), none, none] [] g Q := by
  have c29 := x.1
  have h4 := r.1.1
  intro m
  induction m with
  | zero =>
    intro k g hk wg fg y
    have e1 := fg.f 109 29 (by decide) (by simp)
    refine w_M_suspects_69 hs wg ⟨fun _ => K g wg fg (fun s hs2 => ?_), fun c => by omega⟩
    rw [y s hs2]
    constructor
    · rintro ⟨k', e', h1, h2, h3, h5, h6, h7⟩
      rcases thV_r r (mtP_r h2).1 e' with q | ⟨q1, q2, q3, q4, q5⟩
      · rw [q] at h3; exact absurd h3.symm h5
      · exact ⟨_, e', h2, q3, q4, by rw [← h3, q5], h6, h7⟩
    · rintro ⟨st, e, h1, h2, h3, h5, h6, h7⟩
      obtain ⟨k', j1, j2⟩ := x.2.2.1 st (mtP_r h1).1
      refine ⟨k', e, Or.inl ⟨by omega, by omega⟩, by rw [j2]; exact h1, ?_, by omega, h6, h7⟩
      rw [j2, h5]
      unfold thV
      rw [if_pos ⟨h2, h3⟩]
  | succ m ih =>
    intro k g hk wg fg y
    have e1 := fg.f 109 29 (by decide) (by simp)
    have hr := x.2.1 k (by omega)
    have sb := (hr.ok r).1
    have mk := mt (b.2.2.2 119 k).toNat (by omega)
    rw [show (((b.2.2.2 119 k).toNat : Nat) : Int) = b.2.2.2 119 k by omega] at mk
    refine w_M_suspects_69 hs wg ⟨fun c => by omega, fun _ => ?_⟩
    have nxt : ∀ g2, wf g2 → fr [125] [] b g2 → (∀ s : Nat, s < 360 → (0 < g2.2.2.2 125 s ↔ gtP b a f num n j (k + 1) 0 (s : Int))) → ∀ y4, y4 = am_w ((k : Int) + 1) → am_R (am_prog scr) (d + 2) f_M_suspects 69 [some (.inr (.inr ((109 : Nat) : Int))), some (.inl (t)), some (.inl (x2)), some (.inl (x3)), some (.inl (x4)), some (.inl ((j : Int))), some (.inl (y4)), none, none] [] g2 Q := by
      intro g2 w2 f2 y2 y4 h4
      rw [am_w_id (by omega) (by omega)] at h4
      obtain rfl : y4 = ((k + 1 : Nat) : Int) := by omega
      exact ih (k + 1) g2 (by omega) w2 f2 y2
    have inner : ∀ (p e : Nat) (g : am_H), e + p = 7 → wf g → fr [125] [] b g → (∀ s : Nat, s < 360 → (0 < g.2.2.2 125 s ↔ gtP b a f num n j k e (s : Int))) → am_R (am_prog scr) (d + 2) f_M_suspects 81 [some (.inr (.inr ((109 : Nat) : Int))), some (.inl (t)), some (.inl (x2)), some (.inl (x3)), some (.inl (x4)), some (.inl ((j : Int))), some (.inl ((k : Int))), some (.inl ((e : Int))), none] [] g Q := by
      intro p
      induction p with
      | zero =>
        intro e g he wg fg y
        refine w_M_suspects_81 hs wg ⟨fun _ => nxt g wg fg (fun s hs2 => ?_), fun c => by omega⟩
        rw [y s hs2]
        constructor
        · rintro ⟨k', e', h1, h2⟩; exact ⟨k', e', Or.inl (by omega), h2⟩
        · rintro ⟨k', e', h1, h2⟩; exact ⟨k', e', by omega, h2⟩
      | succ p ih2 =>
        intro e g he wg fg y
        have k2 := fg.c 119 (by decide) (by simp)
        have k3 := fg.c 120 (by decide) (by simp)
        have k4 := fg.c 124 (by decide) (by simp)
        have k5 := fg.c 128 (by decide) (by simp)
        have k7 : ∀ i, i < n → numM g t i = num i := fun i hi => by unfold numM; rw [fg.c 132 (by decide) (by simp)]; exact k6 i hi
        have t7 := x.2.2.2.2 _ hr e (by omega)
        refine w_M_suspects_81 hs wg ⟨fun c => by omega, fun _ => ?_⟩
        rw [k2, k3, k4, Int.toNat_natCast, am_w_id (x := 7 * b.2.2.2 119 k) (by omega) (by omega), am_w_id (x := 7 * b.2.2.2 119 k + (e : Int)) (by omega) (by omega), t7]
        refine ⟨by omega, sb, fun c => nxt g wg fg (fun s hs2 => ?_), fun c => ⟨by omega, by omega, fun y7 h7 => ?_⟩⟩
        · rw [mk] at c
          rw [y s hs2]
          constructor
          · rintro ⟨k', e', h1, h2, h3⟩
            refine ⟨k', e', Or.inl ?_, h2, h3⟩
            have : k' ≠ k := fun z => c (by rw [← z]; exact h2)
            omega
          · rintro ⟨k', e', h1, h2, h3⟩
            refine ⟨k', e', Or.inl ?_, h2, h3⟩
            have : k' ≠ k := fun z => c (by rw [← z]; exact h2)
            omega
        · have mk2 := mk.mp c
          subst h7
          have tv := thV_r r hr e
          -- this deed changes nothing
          have no : ¬ (thV a f (b.2.2.2 119 k) e ≠ -1 ∧ hdB num j (thV a f (b.2.2.2 119 k) e) = true ∧ 0 < hN a f num n (n - (j + 1)) (thV a f (b.2.2.2 119 k) e)) → ∀ y, y = am_w ((e : Int) + 1) → am_R (am_prog scr) (d + 2) f_M_suspects 81 [some (.inr (.inr ((109 : Nat) : Int))), some (.inl (t)), some (.inl (x2)), some (.inl (x3)), some (.inl (x4)), some (.inl ((j : Int))), some (.inl ((k : Int))), some (.inl (y)), none] [] g Q := by
            intro c1 q hq
            rw [am_w_id (by omega) (by omega)] at hq
            obtain rfl : q = ((e + 1 : Nat) : Int) := by omega
            refine ih2 (e + 1) g (by omega) wg fg (fun s hs2 => ?_)
            rw [y s hs2]
            constructor
            · rintro ⟨k', e', h1, h2⟩; exact ⟨k', e', by omega, h2⟩
            · rintro ⟨k', e', h1, h2, h3, h5⟩
              refine ⟨k', e', ?_, h2, h3, h5⟩
              have : ¬ (k' = k ∧ e' = e) := by
                rintro ⟨z1, z2⟩
                rw [z1, z2] at h3
                rw [← h3] at h5
                exact c1 h5
              omega
          refine k_isHeard (num := num) hs wg ht (by omega) (by rw [Int.toNat_natCast]; exact k7 j (by omega)) (by omega) ⟨_, rfl, wg, fun c1 => ?_, fun c1 => ?_⟩
          · rw [Int.toNat_natCast, i0] at c1
            exact no (fun z => c1 ⟨z.1, z.2.1⟩)
          · rw [Int.toNat_natCast, i0, Decidable.not_not] at c1
            rcases tv with q | ⟨q1, q2, q3, q4, q5⟩
            · exact absurd q c1.1
            · have on1 := on (j + 1) (by omega) _ q1
              rw [am_w_id (x := (j : Int) + 1) (by omega) (by omega), am_w_id (x := 360 * ((j : Int) + 1)) (by omega) (by omega), am_w_id (x := 360 * ((j : Int) + 1) + thV a f (b.2.2.2 119 k) e) (by omega) (by omega)]
              rw [show ((j + 1 : Nat) : Int) = (j : Int) + 1 by omega] at on1
              rw [k5, on1]
              refine ⟨by omega, fun c2 => no (fun z => c2 z.2.2), fun c2 => ⟨q2, fun h14 e14 q hq => ?_⟩⟩
              rw [am_w_id (by omega) (by omega)] at hq
              obtain rfl : q = ((e + 1 : Nat) : Int) := by omega
              refine ih2 (e + 1) h14 (by omega) (by rw [e14]; exact wg.pa (by decide +kernel)) (by rw [e14]; exact fg.put (Or.inl (by decide))) (fun s hs2 => ?_)
              rw [e14]
              simp only [put_at, true_and]
              by_cases q : s = (thV a f (b.2.2.2 119 k) e).toNat
              · rw [if_pos q]
                refine ⟨fun _ => ⟨k, e, by omega, mk2, by omega, by omega, ?_⟩, fun _ => by omega⟩
                rw [show (s : Int) = thV a f (b.2.2.2 119 k) e by omega]
                exact ⟨c1.2, c2⟩
              · rw [if_neg q, y s hs2]
                constructor
                · rintro ⟨k', e', h1, h2⟩; exact ⟨k', e', by omega, h2⟩
                · rintro ⟨k', e', h1, h2, h3, h5⟩
                  refine ⟨k', e', ?_, h2, h3, h5⟩
                  have : ¬ (k' = k ∧ e' = e) := by
                    rintro ⟨z1, z2⟩
                    rw [z1, z2] at h3
                    omega
                  omega
    exact inner 7 0 g rfl wg fg y
theorem k_sus_60 {b : am_H} {x3 : Int} {i : Nat} (hs : am_sc scr) (r : rok a f B) (ht : 0 ≤ t ∧ t ≤ 3) (x : msP b a f) (on : ∀ i, i ≤ n → onP b a f num n i) (k6 : ∀ i, i < n → numM b t i = num i) (hn : n ≤ 8) (hi : i < n) (H : ∀ g z, wf g → fr [124, 125] [] b g → isBits z 6 (suP a f num n i) → Q (some (.inl (z))) g) : ∀ (m j : Nat) (g : am_H), j + m = i + 1 → wf g → fr [124, 125] [] b g → mnP g a f num n j → (∀ s : Nat, s < 360 → g.2.2.2 125 s = 0) → am_R (am_prog scr) (d + 2) f_M_suspects 60 [some (.inr (.inr ((109 : Nat) : Int))), some (.inl (t)), some (.inl ((i : Int))), some (.inl (x3)), some (.inl (0)), some (.inl ((j : Int))), none, none, none] [] g Q := by
  intro m
  induction m with
  | zero =>
    intro j g hj wg fg mt z0
    refine w_M_suspects_60 hs wg ⟨fun _ => ?_, fun c => by omega⟩
    have lp : ∀ (p s : Nat) (z : Int), s + p = 360 → isBits z 6 (fun k => ∃ s' : Nat, s' < s ∧ 0 < g.2.2.2 124 s' ∧ lastI (s' : Int) = (k : Int)) → am_R (am_prog scr) (d + 2) f_M_suspects 191 [some (.inr (.inr ((109 : Nat) : Int))), some (.inl (t)), some (.inl ((i : Int))), some (.inl (x3)), some (.inl (z)), some (.inl ((s : Int))), none, none, none] [] g Q := by
      intro p
      induction p with
      | zero =>
        intro s z hsp hz
        refine w_M_suspects_191 hs wg ⟨fun _ => H g z wg fg (hz.same (fun k hk => ?_)), fun c => by omega⟩
        constructor
        · rintro ⟨s', h1, h2⟩
          have sb := ((mtP_r h1).1.ok r).1
          refine ⟨s'.toNat, by omega, ?_, by rw [show ((s'.toNat : Nat) : Int) = s' by omega]; exact h2⟩
          rw [mt s'.toNat (by omega), show ((s'.toNat : Nat) : Int) = s' by omega, show j = i + 1 by omega]
          exact h1
        · rintro ⟨s', h1, h2, h3⟩
          rw [mt s' (by omega), show j = i + 1 by omega] at h2
          exact ⟨(s' : Int), h2, h3⟩
      | succ p ih =>
        intro s z hsp hz
        have z2 := hz.2.1
        have z3 : ((2 ^ 6 : Nat) : Int) = 64 := by decide
        refine w_M_suspects_191 hs wg ⟨fun c => by omega, fun _ => ⟨by omega, ?_⟩⟩
        rw [Int.toNat_natCast]
        refine ⟨fun c y2 h2 y3 h3 => ?_, fun c => ?_⟩
        · rw [or_0 ⟨hz.1, by omega⟩] at h2
          rw [am_w_id (by omega) (by omega)] at h3
          obtain rfl : y3 = ((s + 1 : Nat) : Int) := by omega
          subst h2
          refine ih (s + 1) y2 (by omega) (hz.same (fun k hk => ?_))
          constructor
          · rintro ⟨s', h1, h2, h3⟩
            have : s' ≠ s := fun q => c (by rw [← q]; exact h2)
            exact ⟨s', by omega, h2, h3⟩
          · rintro ⟨s', h1, h2⟩; exact ⟨s', by omega, h2⟩
        · refine k_lastIn hs wg (by omega) ⟨_, rfl, wg, fun y6 h6 y3 h3 => ?_⟩
          rw [am_w_id (by omega) (by omega)] at h3
          obtain rfl : y3 = ((s + 1 : Nat) : Int) := by omega
          subst h6
          have lb := lastI_b (x := (s : Int)) (by omega)
          refine ih (s + 1) _ (by omega) (hz.or (by omega) ⟨lb.1, by omega⟩ (fun k hk => ?_))
          constructor
          · rintro ⟨s', h1, h2, h3⟩
            by_cases q : s' = s
            · rw [q] at h3; exact Or.inr h3.symm
            · exact Or.inl ⟨s', by omega, h2, h3⟩
          · rintro (⟨s', h1, h2⟩ | q)
            · exact ⟨s', by omega, h2⟩
            · exact ⟨s, by omega, c, q.symm⟩
    exact lp 360 0 0 rfl (isBits.zero (fun k _ => by rintro ⟨s', h1, _⟩; omega))
  | succ m ih =>
    intro j g hj wg fg mt z0
    refine w_M_suspects_60 hs wg ⟨fun c => by omega, fun _ => ?_⟩
    have x2 : msP g a f := x.fr (fg.f 109 29 (by decide) (by simp)) (fg.c 119 (by decide) (by simp)) (fg.c 120 (by decide) (by simp))
    have on2 : ∀ i, i ≤ n → onP g a f num n i := fun i hi st hr => by rw [fg.c 128 (by decide) (by simp)]; exact on i hi st hr
    have k7 : ∀ i, i < n → numM g t i = num i := fun i hi => by unfold numM; rw [fg.c 132 (by decide) (by simp)]; exact k6 i hi
    have c29 := x2.1
    refine k_sus_69 (b := g) (j := j) hs r ht x2 on2 k7 hn (by omega) mt (fun g2 w2 f2 y2 => ?_) (g.2.2.2 109 29).toNat 0 g (by omega) wg fr.rfl (fun s hs2 => ?_)
    · refine k_isThen hs w2 (fun g3 w3 f3 e3 => ⟨rfl, w3, fun y hy => ?_⟩)
      rw [am_w_id (by omega) (by omega)] at hy
      obtain rfl : y = ((j + 1 : Nat) : Int) := by omega
      refine ih (j + 1) g3 (by omega) w3 ((fg.trans (f2.mono (by decide) (by simp))).trans (f3.mono (by decide) (by simp))) (fun s hs2 => ?_) (fun s hs2 => (e3 s hs2).2)
      rw [(e3 s hs2).1]
      exact y2 s hs2
    · rw [z0 s hs2]
      constructor
      · intro c; omega
      · rintro ⟨k', e', h1, _⟩; omega
theorem k_Msuspects {i : Int} (hs : am_sc scr) (hw : wf h) (ha : h.2.2.2 110 = a) (r : rok a f B) (ht : (0 ≤ t ∧ t ≤ 3) → h.2.2.2 130 t.toNat ≠ -1 → trM h t n num) (H : ∀ g z, wf g → fr [114, 115, 119, 120, 123, 124, 125, 128] [(109, 0), (109, 29)] h g → ((0 ≤ t ∧ t ≤ 3) → (h.2.2.2 130 t.toNat = -1 → z = -6) ∧ (¬ h.2.2.2 130 t.toNat = -1 → suA a f num n i z)) → (¬ (0 ≤ t ∧ t ≤ 3) → z = -2) → Q (some (.inl (z))) g) : am_R (am_prog scr) (d + 7) f_M_suspects 0 [some (.inr (.inr ((109 : Nat) : Int))), some (.inl (t)), some (.inl (i)), none, none, none, none, none, none] [] h Q := by
  refine w_M_suspects_0 hs hw (fun g1 q1 => ?_)
  have w1 : wf g1 := by rw [q1]; exact (put0 hw).1
  have f0 : fr [] [(109, 0)] h g1 := by rw [q1]; exact (put0 hw).2
  have a1 : g1.2.2.2 110 = a := (f0.c 110 (by simp) (by decide)).trans ha
  have f1 : fr [114, 115, 119, 120, 123, 124, 125, 128] [(109, 0), (109, 29)] h g1 := f0.mono (by simp) (by decide)
  have s1 : g1.2.2.2 130 = h.2.2.2 130 := f0.c 130 (by simp) (by decide)
  have t1 : (0 ≤ t ∧ t ≤ 3) → g1.2.2.2 130 t.toNat ≠ -1 → trM g1 t n num := by
    intro c1 c2
    obtain ⟨z1, z2, z3⟩ := ht c1 (by rw [← s1]; exact c2)
    refine ⟨z1, by rw [f0.c 131 (by simp) (by decide)]; exact z2, fun i hi => ?_⟩
    unfold numM
    rw [f0.c 132 (by simp) (by decide)]; exact z3 i hi
  refine k_noHeard hs w1 a1 r t1 ⟨_, rfl, w1, fun c => ?_, fun c => ?_⟩
  · rw [s1] at c
    have c3 : 0 ≤ t ∧ t ≤ 3 := by
      apply Decidable.byContradiction; intro q; rw [if_neg q] at c; omega
    rw [if_pos c3] at c
    have c4 : h.2.2.2 130 t.toNat ≠ -1 := by
      intro q; rw [if_pos q] at c; omega
    rw [if_neg c4] at c
    have nb : 1 ≤ n ∧ n ≤ 8 := by
      apply Decidable.byContradiction; intro q; unfold rfH at c; rw [if_neg q] at c; omega
    have tr := t1 c3 (by rw [s1]; exact c4)
    have HH : ∀ g z, wf g → fr [114, 115, 119, 120, 123, 124, 125, 128] [(109, 0), (109, 29)] h g → ((i < 0 → z = -3) ∧ (¬ i < 0 → (¬ i < (n : Int) → z = -7) ∧ (i < (n : Int) → isBits z 6 (suP a f num n i.toNat)))) → Q (some (.inl (z))) g := by
      intro g z wg fg hz
      exact H g z wg fg (fun _ => ⟨fun q => absurd q c4, fun _ => ⟨fun q => absurd c q, fun _ => hz⟩⟩) (fun q => absurd c3 q)
    refine ⟨fun c5 => ⟨by omega, ?_⟩, fun c5 => HH g1 (-3) w1 f1 ⟨fun _ => rfl, fun q => absurd c5 q⟩⟩
    rw [tr.2.1]
    refine ⟨fun c6 => ?_, fun c6 => HH g1 (-7) w1 f1 ⟨fun q => absurd q c5, fun _ => ⟨fun _ => rfl, fun q => absurd q c6⟩⟩⟩
    refine k_laysHeard hs w1 a1 r c3 tr nb (fun g wg fg x on => ⟨_, rfl, wg, fun c7 => ?_, fun c7 => ?_⟩)
    · have ag : g.2.2.2 110 = a := (fg.c 110 (by decide) (by decide)).trans a1
      refine k_beginsMany hs wg ag r (fun g2 w2 f2 e2 => ⟨rfl, w2, ?_⟩)
      obtain ⟨i', rfl⟩ : ∃ i' : Nat, i = i' := ⟨i.toNat, by omega⟩
      have hb := (hN_b (num := num) (n := n) r n (stA a)).1
      refine k_sus_60 (b := g) (i := i') hs r c3 x on (fun j hj => by unfold numM; rw [fg.c 132 (by decide) (by decide)]; exact tr.2.2 j hj) nb.2 (by omega) (fun g3 z w3 f3 hz => ?_) (i' + 1) 0 g2 (by omega) w2 f2 (fun s hs2 => ?_) (fun s hs2 => (e2 s hs2).2)
      · exact HH g3 z w3 (f1.trans ((fg.mono (by decide) (by decide)).trans (f3.mono (by decide) (by simp)))) ⟨fun q => absurd q c5, fun _ => ⟨fun q => absurd c6 q, fun _ => by rw [Int.toNat_natCast]; exact hz⟩⟩
      · rw [(e2 s hs2).1]
        simp only [mtP]
        by_cases q : (s : Int) = stA a
        · rw [if_pos q]; exact ⟨fun _ => ⟨q, by omega⟩, fun _ => by omega⟩
        · rw [if_neg q]; exact ⟨fun z => by omega, fun z => absurd z.1 q⟩
    · refine HH g 0 wg (f1.trans (fg.mono (by decide) (by decide))) ⟨fun q => absurd q c5, fun _ => ⟨fun q => absurd c6 q, fun _ => isBits.zero (fun k _ => ?_)⟩⟩
      rintro ⟨s, h1, _⟩
      have := (mtP_r h1).2.1
      omega
  · rw [s1] at c ⊢
    refine H g1 _ w1 f1 (fun c3 => ?_) (fun c3 => by rw [if_neg c3])
    rw [if_pos c3] at c ⊢
    refine ⟨fun c4 => by rw [if_pos c4], fun c4 => ?_⟩
    rw [if_neg c4] at c ⊢
    exact ⟨fun _ => rfl, fun q => absurd q c⟩
end HM2
