/-! what was heard: the class's answers -/
theorem PP95 : (∀ q ∈ PPL, q < 95) ∧ (∀ q ∈ PPF, q.1 < 95) := by decide
section HE
variable {scr : Nat × (Nat → Int)} {d : Nat} {h : am_H} {Q : Option am_V → am_H → Prop} {W : Wd} {ser : Nat} {a : Nat → Int} {f : Nat → (Nat → Int) → Int} {B : Int} {num : Nat → Int} {n t1 : Nat}
theorem k_rowRefusal {lo hi : Int} (hs : am_sc scr) (hw : wf h) (ht : t1 ∈ TR) (tc : trC h t1 n num) (H : Q (some (.inl (rfH lo hi num n))) h) : am_R (am_prog scr) d f_Tray_rowRefusal 0 [some (.inr (.inr (((t1) : Nat) : Int))), some (.inl (lo)), some (.inl (hi)), none] [] h Q := by
  unfold rfH at H
  refine w_Tray_rowRefusal_0 ht hs hw ?_
  rw [tc.2.1]
  refine ⟨fun c => ?_, fun c => ⟨fun c2 => ?_, fun c2 => ?_⟩⟩
  · rw [if_neg (by omega)] at H; exact H
  · rw [if_pos (by omega)] at H
    have lp : ∀ (m k : Nat), k + m = n → (∀ i, i < k → lo ≤ num i ∧ num i < hi) → am_R (am_prog scr) d f_Tray_rowRefusal 22 [some (.inr (.inr (((t1) : Nat) : Int))), some (.inl (lo)), some (.inl (hi)), some (.inl ((k : Int)))] [] h Q := by
      intro m
      induction m with
      | zero =>
        intro k hk ok
        refine w_Tray_rowRefusal_22 ht hs hw ?_
        rw [tc.2.1]
        refine ⟨fun _ => ?_, fun c => by omega⟩
        rw [if_pos (rgB_t.mpr (fun i hi => ok i (by omega)))] at H
        exact H
      | succ m ih =>
        intro k hk ok
        refine w_Tray_rowRefusal_22 ht hs hw ?_
        rw [tc.2.1, Int.toNat_natCast, tc.2.2 k (by omega)]
        refine ⟨fun c => by omega, fun _ => ⟨by omega, fun c3 => ?_, fun c3 => ⟨by omega, fun c4 y hy => ?_, fun c4 => ?_⟩⟩⟩
        · rw [if_neg (fun z => by have := rgB_t.mp z k (by omega); omega)] at H; exact H
        · rw [am_w_id (by omega) (by omega)] at hy
          obtain rfl : y = ((k + 1 : Nat) : Int) := by omega
          refine ih (k + 1) (by omega) (fun i hi => ?_)
          by_cases q : i = k
          · rw [q]; omega
          · exact ok i (by omega)
        · rw [if_neg (fun z => by have := rgB_t.mp z k (by omega); omega)] at H; exact H
    exact lp n 0 (by omega) (fun i hi => by omega)
  · rw [if_neg (by omega)] at H; exact H
theorem k_heardRefusal {t : Int} (hs : am_sc scr) (hw : wf h) (wo : wc h W) (x : plW h W 24 ser a) (ht : (0 ≤ t ∧ t ≤ 3) → h.2.2.2 (95 + 2 * t.toNat) 0 = 0 → trC h (95 + 2 * t.toNat) n num) (H : Q (some (.inl (if 0 ≤ t ∧ t ≤ 3 then (if h.2.2.2 (95 + 2 * t.toNat) 0 = 0 then rfH (-1) (a 2) num n else -6) else -2))) h) : am_R (am_prog scr) (d + 1) f_S_heardRefusal 0 [some (.inr (.inr (((0) : Nat) : Int))), some (.inl (t)), none] [] h Q := by
  have hsc := (x.hs wo).1
  have x0 := x.2.2.1.1
  refine w_S_heardRefusal_0 hs hw ?_
  refine k_trayRefusal hs hw ⟨_, rfl, hw, fun c3 => ?_, fun c3 => ?_⟩
  · have c4 : 0 ≤ t ∧ t ≤ 3 := by
      apply Decidable.byContradiction; intro q; rw [if_neg q] at c3; omega
    rw [if_pos c4] at c3 H
    have c5 : h.2.2.2 (95 + 2 * t.toNat) 0 = 0 := by
      apply Decidable.byContradiction; intro q; rw [if_neg q] at c3; omega
    rw [if_pos c5] at H
    rw [x0, Int.toNat_natCast, hsc.2.2.2.1]
    refine ⟨by omega, ⟨by omega, by rw [Int.toNat_natCast]; exact hsc.2.1⟩, ?_⟩
    exact k_rowRefusal hs hw (TR_i c4) (ht c4 c5) ⟨_, rfl, hw, H⟩
  · by_cases c4 : 0 ≤ t ∧ t ≤ 3
    · rw [if_pos c4] at c3 H ⊢
      by_cases c5 : h.2.2.2 (95 + 2 * t.toNat) 0 = 0
      · rw [if_pos c5] at c3; omega
      · rw [if_neg c5] at H ⊢; exact H
    · rw [if_neg c4] at H ⊢; exact H
theorem k_heardRows (hs : am_sc scr) (hw : wf h) (x : grP h a f) (r : rok a f B) (fi : fiP h a f num n 0) (H : Q (some (.inr (.inl (hN a f num n n (stA a))))) h) : am_R (am_prog scr) d f_Tally_heardRows 0 [some (.inr (.inr (((43) : Nat) : Int)))] [] h Q := by
  have nb := node_b r.st.1
  refine w_Tally_heardRows_0 hs hw ?_
  rw [x.2.1.1]
  have := fi (stA a) rfl
  rw [Nat.sub_zero, Nat.add_zero] at this
  rw [this]
  exact ⟨nb, H⟩
theorem k_fitDeed {st : Int} {j : Nat} (hs : am_sc scr) (hw : wf h) (x : grP h a f) (r : rok a f B) (m : mA a f num j st) (hj : j < n) (hn : n ≤ 8) (y : fiP h a f num n (j + 1)) (hp : 0 < hN a f num n (n - j) st) (H : Q (some (.inl ((hFd a f num n (n - (j + 1)) st : Int)))) h) : am_R (am_prog scr) (d + 3) f_Tally_fittingDeed 0 [some (.inr (.inr (((43) : Nat) : Int))), some (.inl (nodeS st)), some (.inl ((j : Int))), some (.inr (.inl (num j))), none, none] [] h Q := by
  have h4 := r.1.1
  have hr := mA_r m
  have so := hr.ok r
  rw [show n - j = n - (j + 1) + 1 by omega] at hp
  obtain ⟨no, e1, e2⟩ := hN_pos r hp
  refine w_Tally_fittingDeed_0 hs hw ?_
  have lp : ∀ (p e : Nat), e + p = 7 → lsT (hpB a f num n (n - (j + 1)) st) p e = hFd a f num n (n - (j + 1)) st → am_R (am_prog scr) (d + 3) f_Tally_fittingDeed 3 [some (.inr (.inr (((43) : Nat) : Int))), some (.inl (nodeS st)), some (.inl ((j : Int))), some (.inr (.inl (num j))), none, some (.inl ((e : Int)))] [] h Q := by
    intro p
    induction p with
    | zero => intro e he hl; simp only [lsT] at hl; omega
    | succ p ih =>
      intro e he hl
      have ge := lsT_ge (p := hpB a f num n (n - (j + 1)) st) (p + 1) e
      simp only [lsT] at hl ge
      refine w_Tally_fittingDeed_3 hs hw ?_
      refine k_gSleepers hs hw x.1 ⟨_, rfl, hw, fun c2 => by omega, fun c2 => ?_⟩
      refine k_after hs hw x.2.2 r so no (x.2.1.known r hr no) (by omega) ⟨_, rfl, hw, ?_⟩
      refine k_behind (n := n) hs hw r m no (by omega) (by omega) y ⟨_, rfl, hw, fun c3 y10 h10 => ?_, fun c3 => ?_⟩
      · rw [am_w_id (by omega) (by omega)] at h10
        obtain rfl : y10 = ((e + 1 : Nat) : Int) := by omega
        refine ih (e + 1) (by omega) ?_
        rw [if_neg] at hl
        · exact hl
        · intro z
          have z := hpB_t.mp z
          rw [show n - (n - (j + 1) + 1) = j by omega] at z
          rw [if_pos z.2.1] at c3
          exact c3 z.2.2
      · have pb : hpB a f num n (n - (j + 1)) st e = true := by
          refine hpB_t.mpr ?_
          rw [show n - (n - (j + 1) + 1) = j by omega]
          by_cases q : hdB num j (Tr a f st (e : Int)) = true
          · rw [if_pos q] at c3; exact ⟨by omega, q, c3⟩
          · rw [if_neg q] at c3; omega
        rw [if_pos pb] at hl
        rw [← hl] at H
        exact H
  exact lp 7 0 rfl rfl
theorem k_firstHeard {i : Int} (hs : am_sc scr) (hw : wf h) (x : grP h a f) (r : rok a f B) (ht : t1 ∈ TR) (tc : trC h t1 n num) (hn : 1 ≤ n ∧ n ≤ 8) (hi : 0 ≤ i) (fi : ∀ i, i ≤ n → fiP h a f num n i) (H : Q (some (.inl (if hN a f num n n (stA a) = 0 then -1 else if i < (n : Int) then (hBy a f num n i.toNat (n - 1) (stA a) : Int) else -1))) h) : am_R (am_prog scr) (d + 4) f_Tally_firstHeardDeed 0 [some (.inr (.inr (((43) : Nat) : Int))), some (.inr (.inr (((t1) : Nat) : Int))), some (.inl (i)), none, none] [] h Q := by
  have h4 := r.1.1
  refine w_Tally_firstHeardDeed_0 ht hs hw ?_
  rw [tc.2.1]
  refine ⟨fun c => ?_, fun c => ?_⟩
  · rw [if_neg c] at H
    by_cases q : hN a f num n n (stA a) = 0
    · rw [if_pos q] at H; exact H
    · rw [if_neg q] at H; exact H
  · rw [if_pos c] at H
    refine k_heardRows hs hw x r (fi 0 (by omega)) ⟨_, rfl, hw, fun c2 y3 h3 => ?_, fun c2 => ?_⟩
    · rw [if_neg c2] at H
      rw [x.2.1.1] at h3
      subst h3
      obtain ⟨i', rfl⟩ : ∃ i' : Nat, i = i' := ⟨i.toNat, by omega⟩
      rw [Int.toNat_natCast] at H
      have hb := (hN_b (num := num) (n := n) r n (stA a)).1
      have lp : ∀ (k j : Nat) (st : Int), j + k = i' → mA a f num j st → 0 < hN a f num n (n - j) st → hBy a f num n k (n - (j + 1)) st = hBy a f num n i' (n - 1) (stA a) → am_R (am_prog scr) (d + 4) f_Tally_firstHeardDeed 30 [some (.inr (.inr (((43) : Nat) : Int))), some (.inr (.inr (((t1) : Nat) : Int))), some (.inl ((i' : Int))), some (.inl (nodeS st)), some (.inl ((j : Int)))] [] h Q := by
        intro k
        induction k with
        | zero =>
          intro j st hj m hp hb
          simp only [hBy] at hb
          refine w_Tally_firstHeardDeed_30 ht hs hw ⟨fun _ => ⟨by omega, ?_⟩, fun c => by omega⟩
          rw [show (i' : Int) = (j : Int) by omega, Int.toNat_natCast, tc.2.2 j (by omega)]
          refine k_fitDeed (n := n) hs hw x r m (by omega) hn.2 (fi (j + 1) (by omega)) hp ⟨_, rfl, hw, ?_⟩
          rw [hb]
          exact H
        | succ k ih =>
          intro j st hj m hp hb
          simp only [hBy] at hb
          have hp2 := hp
          rw [show n - j = n - (j + 1) + 1 by omega] at hp2
          obtain ⟨no, e1, e2⟩ := hN_pos r hp2
          have e3 := hpB_t.mp e2
          rw [show n - (n - (j + 1) + 1) = j by omega] at e3
          refine w_Tally_firstHeardDeed_30 ht hs hw ⟨fun c => by omega, fun _ => ⟨by omega, ?_⟩⟩
          rw [Int.toNat_natCast, tc.2.2 j (by omega)]
          refine k_fitDeed (n := n) hs hw x r m (by omega) hn.2 (fi (j + 1) (by omega)) hp ⟨_, rfl, hw, ?_⟩
          refine k_after hs hw x.2.2 r ((mA_r m).ok r) no (x.2.1.known r (mA_r m) no) (by omega) ⟨_, rfl, hw, fun y9 h9 => ?_⟩
          rw [am_w_id (by omega) (by omega)] at h9
          obtain rfl : y9 = ((j + 1 : Nat) : Int) := by omega
          refine ih (j + 1) _ (by omega) ⟨st, _, m, no, e1, rfl, e3.2.1⟩ e3.2.2 ?_
          rw [show n - (j + 1 + 1) = n - (j + 1) - 1 by omega]
          exact hb
      exact lp i' 0 (stA a) (by omega) rfl (by rw [Nat.sub_zero]; omega) rfl
    · rw [if_pos c2] at H; exact H
theorem k_snorers {i : Nat} (hs : am_sc scr) (hw : wf h) (x : grP h a f) (r : rok a f B) (ht : t1 ∈ TR) (tc : trC h t1 n num) (hn : 1 ≤ n ∧ n ≤ 8) (hi : i < n) (mb : mbI h (msS a f num n 0)) (fi : ∀ i, i ≤ n → fiP h a f num n i) (H : ∀ z, isBits z 6 (suP a f num n i) → Q (some (.inl (z))) h) : am_R (am_prog scr) (d + 3) f_Tally_heardSnorers 0 [some (.inr (.inr (((43) : Nat) : Int))), some (.inr (.inr (((t1) : Nat) : Int))), some (.inl ((i : Int))), none, none, none, none] [] h Q := by
  have h4 := r.1.1
  refine w_Tally_heardSnorers_0 ht hs hw ?_
  have lp : ∀ (m k : Nat) (z : Int), k + m = 180 → isBits z 6 (fun w => ∃ (st : Int) (e : Nat), mA a f num i st ∧ nodeS st < (k : Int) ∧ ¬ ovT a st ∧ (e : Int) ≤ a 4 ∧ hdB num i (Tr a f st (e : Int)) = true ∧ 0 < hN a f num n (n - (i + 1)) (Tr a f st (e : Int)) ∧ lastI (Tr a f st (e : Int)) = (w : Int)) → am_R (am_prog scr) (d + 3) f_Tally_heardSnorers 5 [some (.inr (.inr (((43) : Nat) : Int))), some (.inr (.inr (((t1) : Nat) : Int))), some (.inl ((i : Int))), some (.inl (z)), some (.inl ((k : Int))), none, none] [] h Q := by
    intro m
    induction m with
    | zero =>
      intro k z hk hz
      refine w_Tally_heardSnorers_5 ht hs hw ⟨fun _ => H z (hz.same (fun w _ => ?_)), fun c => by omega⟩
      constructor
      · rintro ⟨s, h1, h2⟩
        obtain ⟨⟨st, e, m1, m2, m3, m4, m5⟩, h3⟩ := (mA_mt r (by omega)).mp h1
        have nb := on_144 r ((mA_r m1).ok r) m2
        rw [m4] at m5 h3 h2
        exact ⟨st, e, m1, by omega, m2, m3, m5, h3, h2⟩
      · rintro ⟨st, e, m1, _, m2, m3, m5, h3, h2⟩
        exact ⟨Tr a f st (e : Int), (mA_mt r (by omega)).mpr ⟨⟨st, e, m1, m2, m3, rfl, m5⟩, h3⟩, h2⟩
    | succ m ih =>
      intro k z hk hz
      refine w_Tally_heardSnorers_5 ht hs hw ⟨fun c => by omega, fun _ => ?_⟩
      have skip : (∀ st, mA a f num i st → nodeS st = (k : Int) → ovT a st) → ∀ q, q = am_w ((k : Int) + 1) → am_R (am_prog scr) (d + 3) f_Tally_heardSnorers 5 [some (.inr (.inr (((43) : Nat) : Int))), some (.inr (.inr (((t1) : Nat) : Int))), some (.inl ((i : Int))), some (.inl (z)), some (.inl (q)), none, none] [] h Q := by
        intro c q hq
        rw [am_w_id (by omega) (by omega)] at hq
        obtain rfl : q = ((k + 1 : Nat) : Int) := by omega
        refine ih (k + 1) z (by omega) (hz.same (fun w _ => ?_))
        constructor
        · rintro ⟨st, e, m1, m0, m2, m3⟩
          have : nodeS st ≠ (k : Int) := fun z => m2 (c st m1 z)
          exact ⟨st, e, m1, by omega, m2, m3⟩
        · rintro ⟨st, e, m1, m0, m2⟩
          exact ⟨st, e, m1, by omega, m2⟩
      by_cases g0 : ∃ st, mA a f num i st ∧ nodeS st = (k : Int) ∧ ¬ ovT a st
      · obtain ⟨st, s1, s2, no⟩ := g0
        have hr := mA_r s1
        have so := hr.ok r
        have inner : ∀ (p e : Nat) (z : Int), e + p = 8 → isBits z 6 (fun w => ∃ (st' : Int) (e' : Nat), mA a f num i st' ∧ (nodeS st' < (k : Int) ∨ (nodeS st' = (k : Int) ∧ e' < e)) ∧ ¬ ovT a st' ∧ (e' : Int) ≤ a 4 ∧ hdB num i (Tr a f st' (e' : Int)) = true ∧ 0 < hN a f num n (n - (i + 1)) (Tr a f st' (e' : Int)) ∧ lastI (Tr a f st' (e' : Int)) = (w : Int)) → am_R (am_prog scr) (d + 3) f_Tally_heardSnorers 16 [some (.inr (.inr (((43) : Nat) : Int))), some (.inr (.inr (((t1) : Nat) : Int))), some (.inl ((i : Int))), some (.inl (z)), some (.inl ((k : Int))), some (.inl ((e : Int))), none] [] h Q := by
          intro p
          induction p with
          | zero =>
            intro e z he hz
            refine w_Tally_heardSnorers_16 ht hs hw ?_
            refine k_isMet hs hw mb (by omega) (by omega) (fun c => ⟨_, rfl, hw, fun q => by omega, fun _ => ?_⟩) (fun c => absurd (Or.inl ⟨by omega, st, s1, s2⟩) c)
            rw [← s2]
            refine k_gOn hs hw x.1 so ⟨_, rfl, hw, fun c2 => by rw [if_neg no] at c2; omega, fun _ => ?_⟩
            refine k_gSleepers hs hw x.1 ⟨_, rfl, hw, fun c2 q hq => ?_, fun c2 => by omega⟩
            rw [am_w_id (by omega) (by omega)] at hq
            obtain rfl : q = ((k + 1 : Nat) : Int) := by omega
            refine ih (k + 1) z (by omega) (hz.same (fun w _ => ?_))
            constructor
            · rintro ⟨st', e', m1, m0, m2, m3, m4⟩
              exact ⟨st', e', m1, by omega, m2, m3, m4⟩
            · rintro ⟨st', e', m1, m0, m2⟩
              exact ⟨st', e', m1, by omega, m2⟩
          | succ p ih2 =>
            intro e z he hz
            refine w_Tally_heardSnorers_16 ht hs hw ?_
            refine k_isMet hs hw mb (by omega) (by omega) (fun c => ⟨_, rfl, hw, fun q => by omega, fun _ => ?_⟩) (fun c => absurd (Or.inl ⟨by omega, st, s1, s2⟩) c)
            rw [← s2]
            refine k_gOn hs hw x.1 so ⟨_, rfl, hw, fun c2 => by rw [if_neg no] at c2; omega, fun _ => ?_⟩
            refine k_gSleepers hs hw x.1 ⟨_, rfl, hw, fun c2 q hq => ?_, fun c2 => ?_⟩
            · rw [am_w_id (by omega) (by omega)] at hq
              obtain rfl : q = ((k + 1 : Nat) : Int) := by omega
              refine ih (k + 1) z (by omega) (hz.same (fun w _ => ?_))
              constructor
              · rintro ⟨st', e', m1, m0, m2, m3, m4⟩
                exact ⟨st', e', m1, by omega, m2, m3, m4⟩
              · rintro ⟨st', e', m1, m0, m2⟩
                exact ⟨st', e', m1, by omega, m2⟩
            · refine k_after hs hw x.2.2 r so no (x.2.1.known r hr no) (by omega) ⟨_, rfl, hw, by omega, ?_⟩
              rw [Int.toNat_natCast, tc.2.2 i hi]
              have to := Tr_ok r (deed := (e : Int)) so no
              have nb := node_b to.1
              refine k_behind (n := n) hs hw r s1 no (by omega) (by omega) (fi (i + 1) (by omega)) ⟨_, rfl, hw, fun c3 q hq => ?_, fun c3 => ?_⟩
              · rw [am_w_id (by omega) (by omega)] at hq
                obtain rfl : q = ((e + 1 : Nat) : Int) := by omega
                rw [s2]
                refine ih2 (e + 1) z (by omega) (hz.same (fun w _ => ?_))
                constructor
                · rintro ⟨st', e', m1, m0, m2, m3, m4, m5, m6⟩
                  refine ⟨st', e', m1, ?_, m2, m3, m4, m5, m6⟩
                  have : ¬ (nodeS st' = (k : Int) ∧ e' = e) := by
                    rintro ⟨z1, z2⟩
                    have := mA_inj r m1 s1 (by omega)
                    subst this
                    subst z2
                    rw [if_pos m4] at c3
                    exact c3 m5
                  omega
                · rintro ⟨st', e', m1, m0, m2⟩
                  exact ⟨st', e', m1, by omega, m2⟩
              · have hd : hdB num i (Tr a f st (e : Int)) = true := by
                  apply Decidable.byContradiction; intro q; rw [if_neg q] at c3; omega
                rw [if_pos hd] at c3
                have ne := nodeS_e to.1 (hdB_t.mp hd).1
                refine k_gLast hs hw nb.1 ⟨_, rfl, hw, fun y18 h18 q hq => ?_⟩
                rw [am_w_id (by omega) (by omega)] at hq
                obtain rfl : q = ((e + 1 : Nat) : Int) := by omega
                rw [ne.2.2.2.1] at h18
                subst h18
                have lb := lastI_b to.1.1
                rw [s2]
                refine ih2 (e + 1) _ (by omega) (hz.or (by omega) ⟨lb.1, by omega⟩ (fun w _ => ?_))
                constructor
                · rintro ⟨st', e', m1, m0, m2, m3, m4, m5, m6⟩
                  by_cases q : nodeS st' = (k : Int) ∧ e' = e
                  · have := mA_inj r m1 s1 (by omega)
                    subst this
                    rw [q.2] at m6
                    exact Or.inr m6.symm
                  · exact Or.inl ⟨st', e', m1, by omega, m2, m3, m4, m5, m6⟩
                · rintro (⟨st', e', m1, m0, m2⟩ | q)
                  · exact ⟨st', e', m1, by omega, m2⟩
                  · exact ⟨st, e, s1, by omega, no, by omega, hd, c3, q.symm⟩
        refine inner 8 0 z rfl (hz.same (fun w _ => ?_))
        constructor
        · rintro ⟨st', e', m1, m0, m2⟩
          exact ⟨st', e', m1, by omega, m2⟩
        · rintro ⟨st', e', m1, m0, m2⟩
          exact ⟨st', e', m1, by omega, m2⟩
      · have sk := skip (fun st s1 s2 => Decidable.byContradiction (fun q => g0 ⟨st, s1, s2, q⟩))
        refine w_Tally_heardSnorers_16 ht hs hw ?_
        refine k_isMet hs hw mb (by omega) (by omega) (fun c => ⟨_, rfl, hw, fun q => by omega, fun _ => ?_⟩) (fun c => ⟨_, rfl, hw, fun _ => sk, fun q => absurd rfl q⟩)
        rcases c with ⟨_, st, s1, s2⟩ | ⟨q, _⟩
        · have ov : ovT a st := Decidable.byContradiction (fun q => g0 ⟨st, s1, s2, q⟩)
          rw [← s2]
          refine k_gOn hs hw x.1 ((mA_r s1).ok r) ⟨_, rfl, hw, fun _ => by rw [s2]; exact sk, fun c2 => ?_⟩
          rw [if_pos ov] at c2; exact absurd rfl c2
        · omega
  exact lp 180 0 0 rfl (isBits.zero (fun w _ => by rintro ⟨st, e, m1, m0, _⟩; have := (node_b ((mA_r m1).ok r).1).1; omega))
def HAL : List Nat := PPL ++ HL
theorem k_Sheard {t : Int} (hs : am_sc scr) (hw : wf h) (wo : wc h W) (x : plW h W 24 ser a) (r : rok a (W.2.2.1 ser) B) (hB : B < 900000) (y : grI h W B) (ht : (0 ≤ t ∧ t ≤ 3) → h.2.2.2 (95 + 2 * t.toNat) 0 = 0 → trC h (95 + 2 * t.toNat) n num) (H : ∀ g, wf g → fr HAL PPF h g → wc g W → grI g W (B + 400) → Q (some (.inr (.inl (if 0 ≤ t ∧ t ≤ 3 then (if h.2.2.2 (95 + 2 * t.toNat) 0 = 0 then q_heard a (W.2.2.1 ser) num n else -6) else -2)))) g) : am_R (am_prog scr) (d + 6) f_S_heard 0 [some (.inr (.inr (((0) : Nat) : Int))), some (.inl (t)), none] [] h Q := by
  have y0 : grI h W (B + 400) := y.fr (L := []) (F := []) fr.rfl (by simp) (by simp) (by omega)
  unfold q_heard at H
  refine w_S_heard_0 hs hw ?_
  refine k_heardRefusal (n := n) (num := num) hs hw wo x ht ⟨_, rfl, hw, fun c => ?_, fun c => ?_⟩
  · have c4 : 0 ≤ t ∧ t ≤ 3 := by
      apply Decidable.byContradiction; intro q; rw [if_neg q] at c; omega
    rw [if_pos c4] at c H
    have c5 : h.2.2.2 (95 + 2 * t.toNat) 0 = 0 := by
      apply Decidable.byContradiction; intro q; rw [if_neg q] at c; omega
    rw [if_pos c5] at c H
    rw [if_pos c] at H
    have nb : 1 ≤ n ∧ n ≤ 8 := by
      apply Decidable.byContradiction; intro q; unfold rfH at c; rw [if_neg q] at c; omega
    refine k_prepare hs hw wo x r hB y (fun g1 w1 f1 wc1 y1 p1 => ⟨rfl, w1, by omega, ?_⟩)
    have tc1 : trC g1 (95 + 2 * t.toNat) n num := (ht c4 c5).fr f1 (fun q hq => Or.inl (by have := PP95.1 q hq; omega)) (fun q hq => Or.inl (by have := PP95.2 q hq; omega))
    refine k_listen hs w1 p1 r (TR_i c4) tc1 nb (fun g2 w2 f2 x2 t2 mb fi => ⟨rfl, w2, ?_⟩)
    refine k_heardRows hs w2 x2 r (fi 0 (by omega)) ⟨_, rfl, w2, ?_⟩
    exact H g2 w2 ((f1.mono (by decide) (by decide)).trans (f2.mono (by decide) (by simp))) (wc1.fr f2 (by decide) (by simp)) (y1.fr f2 (by decide) (by simp) (by omega))
  · have HH := H h hw fr.rfl wo y0
    by_cases c4 : 0 ≤ t ∧ t ≤ 3
    · rw [if_pos c4] at c HH ⊢
      by_cases c5 : h.2.2.2 (95 + 2 * t.toNat) 0 = 0
      · rw [if_pos c5] at c HH ⊢
        rw [if_neg c] at HH; exact HH
      · rw [if_neg c5] at HH ⊢; exact HH
    · rw [if_neg c4] at HH ⊢; exact HH
theorem k_SheardBy {t i : Int} (hs : am_sc scr) (hw : wf h) (wo : wc h W) (x : plW h W 24 ser a) (r : rok a (W.2.2.1 ser) B) (hB : B < 900000) (y : grI h W B) (ht : (0 ≤ t ∧ t ≤ 3) → h.2.2.2 (95 + 2 * t.toNat) 0 = 0 → trC h (95 + 2 * t.toNat) n num) (H : ∀ g, wf g → fr HAL PPF h g → wc g W → grI g W (B + 400) → Q (some (.inl (if 0 ≤ t ∧ t ≤ 3 then (if h.2.2.2 (95 + 2 * t.toNat) 0 = 0 then q_heardBy a (W.2.2.1 ser) num n i else -6) else -2))) g) : am_R (am_prog scr) (d + 6) f_S_heardBy 0 [some (.inr (.inr (((0) : Nat) : Int))), some (.inl (t)), some (.inl (i)), none] [] h Q := by
  have y0 : grI h W (B + 400) := y.fr (L := []) (F := []) fr.rfl (by simp) (by simp) (by omega)
  unfold q_heardBy at H
  refine w_S_heardBy_0 hs hw ?_
  refine k_heardRefusal (n := n) (num := num) hs hw wo x ht ⟨_, rfl, hw, fun c => ?_, fun c => ?_⟩
  · have c4 : 0 ≤ t ∧ t ≤ 3 := by
      apply Decidable.byContradiction; intro q; rw [if_neg q] at c; omega
    rw [if_pos c4] at c H
    have c5 : h.2.2.2 (95 + 2 * t.toNat) 0 = 0 := by
      apply Decidable.byContradiction; intro q; rw [if_neg q] at c; omega
    rw [if_pos c5] at c H
    rw [if_pos c] at H
    have nb : 1 ≤ n ∧ n ≤ 8 := by
      apply Decidable.byContradiction; intro q; unfold rfH at c; rw [if_neg q] at c; omega
    refine ⟨fun c6 => ?_, fun c6 => ?_⟩
    · rw [if_neg c6] at H
      refine k_prepare hs hw wo x r hB y (fun g1 w1 f1 wc1 y1 p1 => ⟨rfl, w1, by omega, ?_⟩)
      have tc1 : trC g1 (95 + 2 * t.toNat) n num := (ht c4 c5).fr f1 (fun q hq => Or.inl (by have := PP95.1 q hq; omega)) (fun q hq => Or.inl (by have := PP95.2 q hq; omega))
      refine k_listen hs w1 p1 r (TR_i c4) tc1 nb (fun g2 w2 f2 x2 t2 mb fi => ⟨rfl, w2, by omega, ?_⟩)
      refine k_firstHeard hs w2 x2 r (TR_i c4) t2 nb (by omega) fi ⟨_, rfl, w2, ?_⟩
      exact H g2 w2 ((f1.mono (by decide) (by decide)).trans (f2.mono (by decide) (by simp))) (wc1.fr f2 (by decide) (by simp)) (y1.fr f2 (by decide) (by simp) (by omega))
    · rw [if_pos c6] at H
      exact H h hw fr.rfl wo y0
  · have HH := H h hw fr.rfl wo y0
    by_cases c4 : 0 ≤ t ∧ t ≤ 3
    · rw [if_pos c4] at c HH ⊢
      by_cases c5 : h.2.2.2 (95 + 2 * t.toNat) 0 = 0
      · rw [if_pos c5] at c HH ⊢
        rw [if_neg c] at HH; exact HH
      · rw [if_neg c5] at HH ⊢; exact HH
    · rw [if_neg c4] at HH ⊢; exact HH
theorem k_Ssuspects {t i : Int} (hs : am_sc scr) (hw : wf h) (wo : wc h W) (x : plW h W 24 ser a) (r : rok a (W.2.2.1 ser) B) (hB : B < 900000) (y : grI h W B) (ht : (0 ≤ t ∧ t ≤ 3) → h.2.2.2 (95 + 2 * t.toNat) 0 = 0 → trC h (95 + 2 * t.toNat) n num) (H : ∀ g z, wf g → fr HAL PPF h g → wc g W → grI g W (B + 400) → ((0 ≤ t ∧ t ≤ 3) → (¬ h.2.2.2 (95 + 2 * t.toNat) 0 = 0 → z = -6) ∧ (h.2.2.2 (95 + 2 * t.toNat) 0 = 0 → suA a (W.2.2.1 ser) num n i z)) → (¬ (0 ≤ t ∧ t ≤ 3) → z = -2) → Q (some (.inl (z))) g) : am_R (am_prog scr) (d + 6) f_S_suspects 0 [some (.inr (.inr (((0) : Nat) : Int))), some (.inl (t)), some (.inl (i)), none] [] h Q := by
  have y0 : grI h W (B + 400) := y.fr (L := []) (F := []) fr.rfl (by simp) (by simp) (by omega)
  refine w_S_suspects_0 hs hw ?_
  refine k_heardRefusal (n := n) (num := num) hs hw wo x ht ⟨_, rfl, hw, fun c => ?_, fun c => ?_⟩
  · have c4 : 0 ≤ t ∧ t ≤ 3 := by
      apply Decidable.byContradiction; intro q; rw [if_neg q] at c; omega
    rw [if_pos c4] at c
    have c5 : h.2.2.2 (95 + 2 * t.toNat) 0 = 0 := by
      apply Decidable.byContradiction; intro q; rw [if_neg q] at c; omega
    rw [if_pos c5] at c
    have nb : 1 ≤ n ∧ n ≤ 8 := by
      apply Decidable.byContradiction; intro q; unfold rfH at c; rw [if_neg q] at c; omega
    have tc := ht c4 c5
    have HH : ∀ g z, wf g → fr HAL PPF h g → wc g W → grI g W (B + 400) → ((i < 0 → z = -3) ∧ (¬ i < 0 → (¬ i < (n : Int) → z = -7) ∧ (i < (n : Int) → isBits z 6 (suP a (W.2.2.1 ser) num n i.toNat)))) → Q (some (.inl (z))) g := by
      intro g z wg fg wcg yg hz
      exact H g z wg fg wcg yg (fun _ => ⟨fun q => absurd c5 q, fun _ => ⟨fun q => absurd c q, fun _ => hz⟩⟩) (fun q => absurd c4 q)
    refine ⟨fun c6 => ⟨by omega, ?_⟩, fun c6 => HH h (-3) hw fr.rfl wo y0 ⟨fun _ => rfl, fun q => absurd c6 q⟩⟩
    rw [tc.2.1]
    refine ⟨fun c7 => ?_, fun c7 => HH h (-7) hw fr.rfl wo y0 ⟨fun q => absurd q c6, fun _ => ⟨fun _ => rfl, fun q => absurd q c7⟩⟩⟩
    refine k_prepare hs hw wo x r hB y (fun g1 w1 f1 wc1 y1 p1 => ⟨rfl, w1, by omega, ?_⟩)
    have tc1 : trC g1 (95 + 2 * t.toNat) n num := tc.fr f1 (fun q hq => Or.inl (by have := PP95.1 q hq; omega)) (fun q hq => Or.inl (by have := PP95.2 q hq; omega))
    refine k_listen hs w1 p1 r (TR_i c4) tc1 nb (fun g2 w2 f2 x2 t2 mb fi => ⟨rfl, w2, by omega, ?_⟩)
    obtain ⟨i', rfl⟩ : ∃ i' : Nat, i = i' := ⟨i.toNat, by omega⟩
    refine k_snorers hs w2 x2 r (TR_i c4) t2 nb (by omega) mb fi (fun z hz => ⟨_, rfl, w2, ?_⟩)
    exact HH g2 z w2 ((f1.mono (by decide) (by decide)).trans (f2.mono (by decide) (by simp))) (wc1.fr f2 (by decide) (by simp)) (y1.fr f2 (by decide) (by simp) (by omega)) ⟨fun q => absurd q c6, fun _ => ⟨fun q => absurd c7 q, fun _ => by rw [Int.toNat_natCast]; exact hz⟩⟩
  · refine H h _ hw fr.rfl wo y0 (fun c4 => ?_) (fun c4 => by rw [if_neg c4])
    rw [if_pos c4] at c ⊢
    refine ⟨fun c5 => by rw [if_neg c5], fun c5 => ?_⟩
    rw [if_pos c5] at c ⊢
    exact ⟨fun _ => rfl, fun q => absurd q c⟩
end HE
