/-! the class: calls on the play left alone -/
section AL
variable {scr : Nat × (Nat → Int)} {d : Nat} {h : am_H} {Q : Option am_V → am_H → Prop} {W : Wd} {p ser : Nat} {a b : Nat → Int} {f : Nat → (Nat → Int) → Int} {B : Int}
def ALL : List Nat := PPL ++ [38, 39]
def ALF : List (Nat × Nat) := PPF ++ [(30, 11), (30, 12)]
theorem k_Sgoes {v : Int} (hs : am_sc scr) (hw : wf h) (w : wc h W) (x : plW h W 24 ser a) (r : rok a (W.2.2.1 ser) B) (hB : B < 900000) (y : grI h W B) (H : ∀ g z, wf g → fr ALL ALF h g → wc g W → grI g W (B + 400) → ((0 ≤ v ∧ v ≤ 1 → ∃ (n : Nat) (t : Int), LN a (W.2.2.1 ser) n t ∧ z = q_goes a (W.2.2.1 ser) n t v) ∧ (¬ (0 ≤ v ∧ v ≤ 1) → z = -2)) → Q (some (.inl (z))) g) : am_R (am_prog scr) (d + 6) f_S_goes 0 [some (.inr (.inr (((0) : Nat) : Int))), some (.inl (v)), none] [] h Q := by
  have no : ¬ (0 ≤ v ∧ v ≤ 1) → Q (some (.inl (-2))) h := fun q => H h _ hw fr.rfl w (y.fr (L := []) (F := []) fr.rfl (by simp) (by simp) (by omega)) ⟨fun c => absurd c q, fun _ => rfl⟩
  refine w_S_goes_0 hs hw ⟨fun c => no (by omega), fun c => ⟨fun c2 => ?_, fun c2 => no (by omega)⟩⟩
  refine k_prepare hs hw w x r hB y (fun g1 w1 f1 wc1 y1 p1 => ⟨rfl, w1, ?_⟩)
  refine k_leaveAlone hs w1 p1 r (fun g2 n t w2 f2 ln e11 e12 e38 hn => ⟨rfl, w2, ?_⟩)
  have ff : fr ALL ALF h g2 := (f1.mono (by decide) (by decide)).trans (f2.mono (by decide) (by decide))
  have p2 := p1.fr f2 (by decide) (by decide)
  have HH := fun z e => H g2 z w2 ff (wc1.fr f2 (by decide) (by decide)) (y1.fr f2 (by decide) (by decide) (by omega)) ⟨fun _ => ⟨n, t, ln, e⟩, fun q => absurd ⟨by omega, c2⟩ q⟩
  unfold q_goes at HH
  rw [e12, e11]
  refine ⟨fun c3 => ⟨fun c4 => ⟨fun _ => ⟨by omega, ?_⟩, fun q => by omega⟩, fun c4 => ⟨fun _ => ?_, fun q => by omega⟩⟩, fun c3 => ⟨fun c4 => ⟨fun q => by omega, fun _ => ?_⟩, fun c4 => ⟨fun q => by omega, fun _ => ?_⟩⟩⟩
  · rw [Int.toNat_natCast, e38 n (by omega)]
    refine k_gEnd hs w2 p2.1 (seq_ok r n) ⟨_, rfl, w2, fun c5 => ?_, fun c5 => ?_⟩
    · rw [i0] at c5
      exact HH _ (by rw [if_pos (by omega), if_pos c3, if_neg c5])
    · rw [i0, Decidable.not_not] at c5
      exact HH _ (by rw [if_pos (by omega), if_pos c3, if_pos c5])
  · exact HH _ (by rw [if_neg (by omega), if_pos c3])
  · exact HH _ (by rw [if_pos (by omega), if_neg c3])
  · exact HH _ (by rw [if_neg (by omega), if_neg c3])
theorem k_Sround {v : Int} (hs : am_sc scr) (hw : wf h) (w : wc h W) (x : plW h W 24 ser a) (r : rok a (W.2.2.1 ser) B) (hB : B < 900000) (y : grI h W B) (H : ∀ g z, wf g → fr ALL ALF h g → wc g W → grI g W (B + 400) → ((0 ≤ v ∧ v ≤ 1 → ∃ (n : Nat) (t : Int), LN a (W.2.2.1 ser) n t ∧ z = q_round n t v) ∧ (¬ (0 ≤ v ∧ v ≤ 1) → z = -2)) → Q (some (.inl (z))) g) : am_R (am_prog scr) (d + 6) f_S_round 0 [some (.inr (.inr (((0) : Nat) : Int))), some (.inl (v))] [] h Q := by
  have no : ¬ (0 ≤ v ∧ v ≤ 1) → Q (some (.inl (-2))) h := fun q => H h _ hw fr.rfl w (y.fr (L := []) (F := []) fr.rfl (by simp) (by simp) (by omega)) ⟨fun c => absurd c q, fun _ => rfl⟩
  refine w_S_round_0 hs hw ⟨fun c => no (by omega), fun c => ⟨fun c2 => ?_, fun c2 => no (by omega)⟩⟩
  refine k_prepare hs hw w x r hB y (fun g1 w1 f1 wc1 y1 p1 => ⟨rfl, w1, ?_⟩)
  refine k_leaveAlone hs w1 p1 r (fun g2 n t w2 f2 ln e11 e12 e38 hn => ⟨rfl, w2, ?_⟩)
  have ff : fr ALL ALF h g2 := (f1.mono (by decide) (by decide)).trans (f2.mono (by decide) (by decide))
  have HH := fun z e => H g2 z w2 ff (wc1.fr f2 (by decide) (by decide)) (y1.fr f2 (by decide) (by decide) (by omega)) ⟨fun _ => ⟨n, t, ln, e⟩, fun q => absurd ⟨by omega, c2⟩ q⟩
  unfold q_round at HH
  rw [e12, e11]
  refine ⟨fun c3 => ⟨fun c4 => ?_, fun c4 => ?_⟩, fun c3 => ?_⟩
  · have tb : 0 ≤ t ∧ t < n := by
      rcases ln with q | q
      · exact absurd q.1 c3
      · exact q.1
    rw [am_w_id (by omega) (by omega)]
    exact HH _ (by rw [if_neg c3, if_neg c4])
  · exact HH _ (by rw [if_neg c3, if_pos c4])
  · exact HH _ (by rw [if_pos c3])
theorem k_snorerAlone {n : Nat} {t k : Int} (hs : am_sc scr) (hw : wf h) (r : rok a f B) (ln : LN a f n t) (e11 : h.2.2.2 30 11 = n) (e12 : h.2.2.2 30 12 = t) (e38 : ∀ i, i ≤ n → h.2.2.2 38 i = nodeS (seqA a f i)) (hn : n ≤ 180) (hk : 1 ≤ k ∧ k ≤ 99999) (H : Q (some (.inl (q_lies a f n t k))) h) : am_R (am_prog scr) (d + 1) f_Graph_snorerAlone 0 [some (.inr (.inr (((30) : Nat) : Int))), some (.inl (k)), none, none] [] h Q := by
  have last : ∀ (j : Int), 0 ≤ j → j ≤ n → (q_lies a f n t k = if seqA a f j.toNat % 2 = 1 then -1 else lastI (seqA a f j.toNat)) → am_R (am_prog scr) (d + 1) f_Graph_snorerAlone 49 [some (.inr (.inr (((30) : Nat) : Int))), some (.inl (k)), some (.inl (j)), none] [] h Q := by
    intro j j1 j2 e
    have so := seq_ok r j.toNat
    refine w_Graph_snorerAlone_49 hs hw ⟨by omega, fun y hy => ?_⟩
    rw [e38 j.toNat (by omega)] at hy
    subst hy
    refine k_gStill hs hw ⟨_, rfl, hw, fun c => ?_, fun c => ?_⟩
    · have c1 : nodeS (seqA a f j.toNat) < 180 := by
        apply Decidable.byContradiction; intro q; rw [if_neg q] at c; omega
      have ev : ¬ seqA a f j.toNat % 2 = 1 := fun q => by have := nodeS_o so.1 q; omega
      have ne := nodeS_e so.1 ev
      refine k_gLast hs hw (by omega) ⟨_, rfl, hw, ?_⟩
      rw [ne.2.2.2.1]
      rw [e, if_neg ev] at H
      exact H
    · have c1 : ¬ nodeS (seqA a f j.toNat) < 180 := fun q => c (by rw [if_pos q])
      have od : seqA a f j.toNat % 2 = 1 := by
        apply Decidable.byContradiction; intro q; have := nodeS_e so.1 q; omega
      rw [e, if_pos od] at H
      exact H
  refine w_Graph_snorerAlone_0 hs hw ?_
  rw [e11, e12]
  refine ⟨fun c => ?_, fun c y hy => ⟨fun c2 => ?_, fun c2 => ?_⟩⟩
  · refine last k (by omega) c ?_
    unfold q_lies
    by_cases q : t = -1
    · rw [if_pos q, if_pos c]
    · rw [if_neg q]
      have ev : ∀ i, ¬ seqA a f i % 2 = 1 := by
        rcases ln with z | z
        · exact absurd z.1 q
        · intro i c
          exact seq_never (by omega) z.2.1 z.2.2.1 i (Or.inr c)
      rw [if_neg (ev _)]
      rcases ln with z | z
      · exact absurd z.1 q
      · by_cases q2 : k < n
        · rw [if_pos q2]
        · rw [if_neg q2]
          have ek : k = n := by omega
          rw [ek, Int.emod_self, Int.add_zero, Int.toNat_natCast, z.2.1]
  · unfold q_lies at H
    rw [if_pos c2, if_neg c] at H
    exact H
  · have z : (0 ≤ t ∧ t < n) ∧ seqA a f n = seqA a f t.toNat ∧ (∀ k, k ≤ n → ¬ ovT a (seqA a f k)) := by
      rcases ln with z | z
      · exact absurd z.1 c2
      · exact ⟨z.1, z.2.1, z.2.2.1⟩
    rw [am_w_id (by omega) (by omega)] at hy
    refine ⟨fun c3 => ⟨by omega, fun y2 hy2 => ?_⟩, fun c3 => by omega⟩
    have m1 := Int.emod_nonneg (k - t) (b := (n : Int) - t) (by omega)
    have m2 := Int.emod_lt_of_pos (k - t) (b := (n : Int) - t) (by omega)
    rw [am_w_id (x := k - t) (by omega) (by omega), hy, tm (by omega), am_w_id (by omega) (by omega)] at hy2
    refine last y2 (by omega) (by omega) ?_
    have ev : ¬ seqA a f y2.toNat % 2 = 1 := fun c => seq_never (by omega) z.2.1 z.2.2 _ (Or.inr c)
    unfold q_lies
    rw [if_neg c2, if_neg (by omega), if_neg ev, hy2]
theorem k_Slies {k : Int} (hs : am_sc scr) (hw : wf h) (w : wc h W) (x : plW h W 24 ser a) (r : rok a (W.2.2.1 ser) B) (hB : B < 900000) (y : grI h W B) (H : ∀ g z, wf g → fr ALL ALF h g → wc g W → grI g W (B + 400) → ((1 ≤ k ∧ k ≤ 99999 → ∃ (n : Nat) (t : Int), LN a (W.2.2.1 ser) n t ∧ z = q_lies a (W.2.2.1 ser) n t k) ∧ (¬ (1 ≤ k ∧ k ≤ 99999) → z = -3)) → Q (some (.inl (z))) g) : am_R (am_prog scr) (d + 6) f_S_lies 0 [some (.inr (.inr (((0) : Nat) : Int))), some (.inl (k))] [] h Q := by
  have no : ¬ (1 ≤ k ∧ k ≤ 99999) → Q (some (.inl (-3))) h := fun q => H h _ hw fr.rfl w (y.fr (L := []) (F := []) fr.rfl (by simp) (by simp) (by omega)) ⟨fun c => absurd c q, fun _ => rfl⟩
  refine w_S_lies_0 hs hw ⟨fun c => no (by omega), fun c => ⟨fun c2 => ?_, fun c2 => no (by omega)⟩⟩
  refine k_prepare hs hw w x r hB y (fun g1 w1 f1 wc1 y1 p1 => ⟨rfl, w1, ?_⟩)
  refine k_leaveAlone hs w1 p1 r (fun g2 n t w2 f2 ln e11 e12 e38 hn => ⟨rfl, w2, ?_⟩)
  have ff : fr ALL ALF h g2 := (f1.mono (by decide) (by decide)).trans (f2.mono (by decide) (by decide))
  exact k_snorerAlone hs w2 r ln e11 e12 e38 hn (by omega) ⟨_, rfl, w2, H g2 _ w2 ff (wc1.fr f2 (by decide) (by decide)) (y1.fr f2 (by decide) (by decide) (by omega)) ⟨fun _ => ⟨n, t, ln, rfl⟩, fun q => absurd ⟨by omega, c2⟩ q⟩⟩
theorem cut_small {v s : Int} (hv : 0 ≤ v ∧ v < 100) : cutS v s = v := by
  unfold cutS
  have e : am_w v = v := am_w_id (by omega) (by omega)
  rw [e]
  have e1 : Int.bmod v 256 = v := Int.bmod_eq_of_le (by omega) (by omega)
  have e2 : Int.bmod v 65536 = v := Int.bmod_eq_of_le (by omega) (by omega)
  rw [e1, e2]
  repeat' split
  all_goals rfl
/-- rows that a play left alone goes through -/
theorem k_Slists_38 {t v z : Int} {n : Nat} (hs : am_sc scr) (r : rok a (W.2.2.1 ser) B) (hB : B < 900000) (ht : 0 ≤ t ∧ t ≤ 3) (hn : n ≤ 40) : ∀ (m k : Nat) (h : am_H) (b : Nat → Int), k + m = n → wf h → wc h W → plW h W 27 ser b → rok b (W.2.2.1 ser) (B + k) → simA a b → stA b = seqA a (W.2.2.1 ser) k → h.2.2.2 (95 + 2 * t.toNat) 2 = n → (∀ g, wf g → fr [10, 11, 12, 13, 14, 15, 27, 28, 29, 95 + 2 * t.toNat + 1] [] h g → wc g W → (∀ j, g.2.2.2 (95 + 2 * t.toNat + 1) j = if k ≤ j ∧ j < lisN a (W.2.2.1 ser) m k then lisV a (W.2.2.1 ser) v j else h.2.2.2 (95 + 2 * t.toNat + 1) j) → Q (some (.inl ((lisN a (W.2.2.1 ser) m k : Int)))) g) → am_R (am_prog scr) (d + 4) f_S_lists 38 [some (.inr (.inr (((0) : Nat) : Int))), some (.inl (t)), some (.inl (v)), some (.inl (z)), some (.inl ((k : Int)))] [] h Q := by
  intro m
  have p27 : 27 ∈ PL := by decide
  induction m with
  | zero =>
    intro k h b hk hw w x rb sm es e2 H
    refine w_S_lists_38 hs hw ⟨by omega, ?_⟩
    rw [e2]
    refine ⟨fun _ => ?_, fun c => by omega⟩
    have HH := H h hw fr.rfl w (fun j => by rw [if_neg (by simp only [lisN]; omega)])
    simp only [lisN] at HH
    exact HH
  | succ m ih =>
    intro k h b hk hw w x rb sm es e2 H
    have so := seq_ok r k
    have ob : ovA b ↔ ovT a (seqA a (W.2.2.1 ser) k) := by
      rw [← es, ov_sim sm]
      exact rb.over.symm
    refine w_S_lists_38 hs hw ⟨by omega, ?_⟩
    rw [e2]
    refine ⟨fun c => by omega, fun _ => ?_⟩
    refine k_goesOnC hs hw p27 w x rb ⟨_, rfl, hw, fun c => ?_, fun c => ?_⟩
    · have ho : ovA b := by
        apply Decidable.byContradiction; intro q; rw [if_neg q] at c; omega
      have e : lisN a (W.2.2.1 ser) (m + 1) k = k := by
        simp only [lisN]; rw [if_pos (Or.inl (ob.mp ho))]
      have HH := H h hw fr.rfl w (fun j => by rw [e, if_neg (by omega)])
      rw [e] at HH; exact HH
    · have ho : ¬ ovA b := by
        intro q; rw [if_pos q] at c; omega
      have hov : ¬ ovT a (seqA a (W.2.2.1 ser) k) := fun q => ho (ob.mpr q)
      refine k_stepW hs hw p27 w x rb (by omega) ho (fun g wg fg wcg xg => ⟨_, rfl, wg, ?_⟩)
      have bt : btA b (W.2.2.1 ser) (-1) = seqA a (W.2.2.1 ser) (k + 1) := by
        rw [btA_sim sm rb, es]
        simp only [seqA]
        rw [if_neg hov]
        rfl
      have bp := btA_par rb ho (-1)
      rw [bt] at bp
      have gs := gbA_st rb ho (-1)
      rw [bt] at gs
      have so1 := seq_ok r (k + 1)
      have eg2 : g.2.2.2 (95 + 2 * t.toNat) 2 = n := by rw [fg.f _ 2 (by simp; omega) (by simp)]; exact e2
      have ege : ∀ j, g.2.2.2 (95 + 2 * t.toNat + 1) j = h.2.2.2 (95 + 2 * t.toNat + 1) j := fun j => fg.f _ j (by simp; omega) (by simp; omega)
      have fg' : fr [10, 11, 12, 13, 14, 15, 27, 28, 29, 95 + 2 * t.toNat + 1] [] h g := fg.mono (by simp) (by simp)
      refine ⟨fun c2 => ?_, fun c2 => ⟨by omega, ?_⟩⟩
      · have od : seqA a (W.2.2.1 ser) (k + 1) % 2 = 1 := by omega
        have e : lisN a (W.2.2.1 ser) (m + 1) k = k := by
          simp only [lisN]; rw [if_pos (Or.inr od)]
        have HH := H g wg fg' wcg (fun j => by rw [e, ege, if_neg (by omega)])
        rw [e] at HH; exact HH
      · have ev : ¬ seqA a (W.2.2.1 ser) (k + 1) % 2 = 1 := by omega
        have eL : lisN a (W.2.2.1 ser) (m + 1) k = lisN a (W.2.2.1 ser) m (k + 1) := by
          simp only [lisN]
          rw [if_neg]
          intro q
          rcases q with q | q
          · exact hov q
          · exact ev q
        have cont : ∀ (z2 : Int), z2 = lisV a (W.2.2.1 ser) v k → 0 ≤ z2 ∧ z2 < 100 → am_R (am_prog scr) (d + 3) f_Tray_put 0 [some (.inr (.inr (((95 + 2 * t.toNat) : Nat) : Int))), some (.inl ((k : Int))), some (.inr (.inl (z2))), none, none, none] [] g (fun v1 g7 => ∃ r8 : Int, v1 = some (.inr (.inl (r8))) ∧ wf g7 ∧ (∀ y9 : Int, y9 = am_w ((k : Int) + 1) → (am_R (am_prog scr) (d + 3 + 1) f_S_lists 38 [some (.inr (.inr (((0) : Nat) : Int))), some (.inl (t)), some (.inl (v)), some (.inl (z)), some (.inl (y9))] [] g7 Q))) := by
          intro z2 hz hb
          refine k_put hs wg (TR_i ht) (by omega) (fun g7 w7 f7 e7 => ⟨_, rfl, w7, fun y9 hy => ?_⟩)
          rw [am_w_id (by omega) (by omega)] at hy
          obtain rfl : y9 = ((k + 1 : Nat) : Int) := by omega
          have f7' : fr [10, 11, 12, 13, 14, 15, 27, 28, 29, 95 + 2 * t.toNat + 1] [] g g7 := f7.mono (by simp) (by simp)
          refine ih (k + 1) g7 _ (by omega) w7 (wcg.fr f7 (by simp; omega) (by simp)) (xg.fr f7 (by simp; omega) (by simp)) ((gbA_ok rb ho (-1)).le (by omega)) (sm.trans gbA_sim) gs (by rw [f7.f _ 2 (by simp) (by simp)]; exact eg2) (fun g8 w8 f8 wc8 e8 => ?_)
          have lb := lisN_b (a := a) (f := W.2.2.1 ser) m (k + 1)
          rw [← eL]
          refine H g8 w8 ((fg'.trans f7').trans f8) wc8 (fun j => ?_)
          rw [e8 j, eL, e7 j, cut_small hb, ege]
          by_cases q : j = k
          · rw [if_neg (by omega), if_pos (by omega), if_pos (by omega), hz, q]
          · by_cases q2 : k + 1 ≤ j ∧ j < lisN a (W.2.2.1 ser) m (k + 1)
            · rw [if_pos q2, if_pos (by omega)]
            · rw [if_neg q2, if_neg (by omega), if_neg (by omega)]
        have n4 : b 4 ≠ 0 := fun e => ho (Or.inr (rb.2.2.1.2.2.2.2.2 e))
        have x3 := xg.2.2.1
        have e4 : g.2.2.2 27 4 = lastI (seqA a (W.2.2.1 ser) (k + 1)) := by rw [x3.2.2.2.1, gs, gbA_sim 4 (by omega), if_neg n4]
        have e5 : g.2.2.2 27 5 = soundI (seqA a (W.2.2.1 ser) (k + 1)) := by rw [x3.2.2.2.2.1, gs]
        rw [e4, e5]
        have l1 := lastI_b so1.1.1
        have l2 := soundI_b so1.1.1
        exact ⟨fun c3 => cont _ (by unfold lisV; rw [if_neg c3]) (by omega), fun c3 => cont _ (by unfold lisV; rw [if_pos c3]) (by omega)⟩
theorem k_Slists {t v : Int} {n : Nat} (hs : am_sc scr) (hw : wf h) (w : wc h W) (x : plW h W 24 ser a) (r : rok a (W.2.2.1 ser) B) (hB : B < 900000) (ht : (0 ≤ t ∧ t ≤ 3) → h.2.2.2 (95 + 2 * t.toNat) 0 = 0 → n ≤ 40 ∧ h.2.2.2 (95 + 2 * t.toNat) 2 = n) (H : ∀ g, wf g → fr (if 0 ≤ t ∧ t ≤ 3 then [10, 11, 12, 13, 14, 15, 27, 28, 29, 95 + 2 * t.toNat + 1] else []) [] h g → wc g W → (∀ j, g.2.2.2 (95 + 2 * t.toNat + 1) j = if ((0 ≤ t ∧ t ≤ 3) ∧ (0 ≤ v ∧ v ≤ 1) ∧ h.2.2.2 (95 + 2 * t.toNat) 0 = 0) ∧ j < lisN a (W.2.2.1 ser) n 0 then lisV a (W.2.2.1 ser) v j else h.2.2.2 (95 + 2 * t.toNat + 1) j) → Q (some (.inl (if (0 ≤ t ∧ t ≤ 3) ∧ (0 ≤ v ∧ v ≤ 1) then (if h.2.2.2 (95 + 2 * t.toNat) 0 = 0 then (lisN a (W.2.2.1 ser) n 0 : Int) else -6) else -2))) g) : am_R (am_prog scr) (d + 4) f_S_lists 0 [some (.inr (.inr (((0) : Nat) : Int))), some (.inl (t)), some (.inl (v)), none, none] [] h Q := by
  have p24 : 24 ∈ PL := by decide
  have p27 : 27 ∈ PL := by decide
  have no : ¬ ((0 ≤ t ∧ t ≤ 3) ∧ (0 ≤ v ∧ v ≤ 1) ∧ h.2.2.2 (95 + 2 * t.toNat) 0 = 0) → Q (some (.inl (if (0 ≤ t ∧ t ≤ 3) ∧ (0 ≤ v ∧ v ≤ 1) then (if h.2.2.2 (95 + 2 * t.toNat) 0 = 0 then (lisN a (W.2.2.1 ser) n 0 : Int) else -6) else -2))) h := fun q => H h hw fr.rfl w (fun j => by rw [if_neg (fun c => q c.1)])
  refine w_S_lists_0 hs hw ⟨fun c => ?_, fun c => ⟨fun c2 => ?_, fun c2 => ?_⟩⟩
  · have := no (by omega)
    rw [if_neg (by omega)] at this; exact this
  · refine k_trayRefusal hs hw ⟨_, rfl, hw, fun c3 => ?_, fun c3 => ?_⟩
    · have c4 : 0 ≤ t ∧ t ≤ 3 := by
        apply Decidable.byContradiction; intro q; rw [if_neg q] at c3; omega
      rw [if_pos c4] at c3
      have c5 : h.2.2.2 (95 + 2 * t.toNat) 0 = 0 := by
        apply Decidable.byContradiction; intro q; rw [if_neg q] at c3; omega
      obtain ⟨t1, t2⟩ := ht c4 c5
      refine k_takeFrom hs hw p27 p24 (by decide) x r (fun g2 w2 f2 x2 y2 => ⟨rfl, w2, ?_⟩)
      refine k_Slists_38 (n := n) hs r hB c4 t1 n 0 g2 a (by omega) w2 (w.fr f2 (by decide) (by simp)) x2 (r.le (by omega)) simA.rfl rfl (by rw [f2.f _ 2 (by simp; omega) (by simp)]; exact t2) (fun g3 w3 f3 wc3 e3 => ?_)
      have HH := H g3 w3 (by rw [if_pos c4]; exact (f2.mono (by simp) (by simp)).trans f3) wc3 (fun j => by
        rw [e3 j, f2.f _ j (by simp; omega) (by simp)]
        by_cases q : j < lisN a (W.2.2.1 ser) n 0
        · rw [if_pos ⟨by omega, q⟩, if_pos ⟨⟨c4, by omega, c5⟩, q⟩]
        · rw [if_neg (fun z => q z.2), if_neg (fun z => q z.2)])
      rw [if_pos ⟨c4, by omega⟩, if_pos c5] at HH
      exact HH
    · by_cases c4 : 0 ≤ t ∧ t ≤ 3
      · rw [if_pos c4] at c3 ⊢
        by_cases c5 : h.2.2.2 (95 + 2 * t.toNat) 0 = 0
        · rw [if_pos c5] at c3; omega
        · have := no (fun q => c5 q.2.2)
          rw [if_pos ⟨c4, by omega⟩, if_neg c5] at this
          rw [if_neg c5]; exact this
      · have := no (fun q => c4 q.1)
        rw [if_neg (fun q => c4 q.1)] at this
        rw [if_neg c4]; exact this
  · have := no (by omega)
    rw [if_neg (by omega)] at this; exact this
end AL
