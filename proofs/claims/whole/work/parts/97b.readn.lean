/-! reading: the reference, level by level -/
def inM (scr : Nat × (Nat → Int)) (T : Nat → Int) (N : Nat) (I : Option (Nat → Nat → PR)) (x : Int) (D : Nat) : Prop := 12 ≤ D ∧ ((I = none ∧ x = 6) ∨ ∃ J, I = some J ∧ (0 ≤ x ∧ x < 6) ∧ RcM scr T N D f_M_readSum [some (.inr (.inr ((109 : Nat) : Int))), some (.inl (x + 1)), none] (J 0) ∧ RcM scr T N D f_M_readUnit [some (.inr (.inr ((109 : Nat) : Int))), some (.inl (x + 1)), none] (J 1) ∧ RcM scr T N D f_M_readTruth [some (.inr (.inr ((109 : Nat) : Int))), some (.inl (x + 1))] (J 2))
theorem PM.ok {T : Nat → Int} {N n : Nat} {h g : am_H} {x : PX} (a : okM g T N x.1) (b : dM h g n x.2.1) : PM T N h g n (.inr x) := ⟨a, b⟩
theorem PM.fl {T : Nat → Int} {N n : Nat} {h g : am_H} {e : Int × Int} (a : flM g e) : PM T N h g n (.inl e) := a
section RN
variable {scr : Nat × (Nat → Int)} {d : Nat} {h : am_H} {Q : Option am_V → am_H → Prop} {T : Nat → Int} {N p n D a : Nat} {I : Option (Nat → Nat → PR)} {x : Int}
theorem m_loop {fA fL : Nat} {lA lL : am_Lv} {key op code : Int} {opf : Int → Int} {A : Nat → PR} (hs : am_sc scr) (hop : ∀ k, opf k = if k = key then op else -1) (ho : op ≠ -1) (hc : code = 3000 + op) (hkey : key ≠ 26) (hD : 7 ≤ D) (hA : RcM scr T N D fA lA A) (gA : ∀ p z, p ≤ N → A p = .inr z → p < z.1 ∧ z.1 ≤ N ∧ p + z.2.1.length ≤ z.1) (W : ∀ (h : am_H) (Q : Option am_V → am_H → Prop), wf h → am_R (am_prog scr) D f_M_eats 0 [some (.inr (.inr ((109 : Nat) : Int))), some (.inl (key))] [] h (fun v g1 => ∃ r2, v = some (.inl r2) ∧ wf g1 ∧ ((r2 = 0 → (Q none g1)) ∧ (¬ (r2 = 0) → (am_R (am_prog scr) D fA 0 lA [] g1 (fun v g3 => v = none ∧ wf g3 ∧ (am_R (am_prog scr) D f_M_codes 0 [some (.inr (.inr ((109 : Nat) : Int))), some (.inl (code))] [] g3 (fun v g4 => v = none ∧ wf g4 ∧ (am_R (am_prog scr) (D + 1) fL 5 lL [] g4 Q)))))))) → am_R (am_prog scr) (D + 1) fL 5 lL [] h Q) (hn : n ≤ p) : ∀ (m : Nat) (x : PX) (g : am_H), N < x.1 + m → x.1 ≤ N → p + x.2.1.length ≤ x.1 → wf g → fr [113] RMF h g → teM g T N → okM g T N x.1 → dM h g n x.2.1 → (∀ g, wf g → fr [113] RMF h g → PM T N h g n (binL T N A opf m x) → Q none g) → am_R (am_prog scr) (D + 1) fL 5 lL [] g Q := by
  intro m
  induction m with
  | zero => intro x g h1 h2; omega
  | succ m ih =>
    intro x g h1 h2 h3 wg fg t o dx H
    simp only [binL] at H
    rw [hop] at H
    have tN := t.1
    refine W g Q wg (m_eats hD hs wg t o (fun q g2 w2 f2 o2 e2 => ⟨_, rfl, w2, fun c => absurd c (by omega), fun _ => ?_⟩) (fun q => ⟨_, rfl, wg, fun _ => ?_, fun c => absurd rfl c⟩))
    · rw [if_pos q, if_neg ho] at H
      have gt := tk_gt h2 (show tkK T N x.1 ≠ 26 by omega)
      have n2 : g2.2.2.2 113 211 = ((n + x.2.1.length : Nat) : Int) := by rw [e2]; exact dx.1
      refine hA g2 _ (tkE T N x.1) (n + x.2.1.length) w2 (t.fr2 f2) o2 n2 (by omega) (fun g3 w3 f3 P3 => ⟨rfl, w3, ?_⟩)
      cases hr : A (tkE T N x.1) with
      | inl e =>
        rw [hr] at P3 H
        have fl : flM g3 e := P3
        refine m_codes_f hs w3 fl ⟨rfl, w3, ?_⟩
        refine W g3 Q w3 (m_eats_f hD hs w3 fl ⟨_, rfl, w3, fun _ => ?_, fun c => absurd rfl c⟩)
        exact H g3 w3 ((fg.trans f2).trans f3) (PM.fl fl)
      | inr y =>
        rw [hr] at P3 H
        obtain ⟨o3, d3⟩ : okM g3 T N y.1 ∧ dM g2 g3 (n + x.2.1.length) y.2.1 := P3
        have by_ := gA _ y gt.2 hr
        refine m_codes hs w3 o3 d3.1 (by omega) (fun g4 w4 f4 o4 d4 => ⟨rfl, w4, ?_⟩)
        have dd : dM h g4 n (binX op x y).2.1 := by
          simp only [binX]
          rw [← hc]
          exact dx.app ((d3.of e2.symm).app d4)
        refine ih (binX op x y) g4 (by simp only [binX]; omega) (by simp only [binX]; omega) (by simp only [binX, List.length_append, List.length_singleton]; omega) w4 (((fg.trans f2).trans f3).trans f4) (((t.fr2 f2).fr2 f3).fr2 f4) o4 dd ?_
        exact H
    · rw [if_neg q, if_pos rfl] at H
      exact H g wg fg (PM.ok o dx)
/-- a token that must stand here -/
theorem m_eaf {k : Int} (hD : 7 ≤ D) (hs : am_sc scr) (hw : wf h) (t : teM h T N) (o : okM h T N p) (H1 : tkK T N p = k → ∀ g, wf g → fr [113] RMF h g → okM g T N (tkE T N p) → g.2.2.2 113 = h.2.2.2 113 → Q none g) (H2 : tkK T N p ≠ k → ∀ g, wf g → fr [113] RMF h g → flM g (if tkK T N p = 27 then 1 else 2, (tkS T N p : Int)) → Q none g) : am_R (am_prog scr) D f_M_eats 0 [some (.inr (.inr ((109 : Nat) : Int))), some (.inl (k))] [] h (fun v g1 => ∃ r, v = some (.inl r) ∧ wf g1 ∧ ((¬ (r = 0) → Q none g1) ∧ (r = 0 → am_R (am_prog scr) D f_M_fails 0 [some (.inr (.inr ((109 : Nat) : Int))), some (.inl (2))] [] g1 (fun v g2 => v = none ∧ wf g2 ∧ Q none g2)))) :=
  m_eats hD hs hw t o (fun q g wg fg og e => ⟨_, rfl, wg, fun _ => H1 q g wg fg og e, fun c => absurd c (by omega)⟩) (fun q => ⟨_, rfl, hw, fun c => absurd rfl c, fun _ => m_fails hs hw o (by omega) (fun g wg fg og => ⟨rfl, wg, H2 q g wg (fg.mono (by simp) (by decide)) og⟩)⟩)
theorem m_eaf_f {k : Int} {e : Int × Int} (hD : 7 ≤ D) (hs : am_sc scr) (hw : wf h) (o : flM h e) (H : Q none h) : am_R (am_prog scr) D f_M_eats 0 [some (.inr (.inr ((109 : Nat) : Int))), some (.inl (k))] [] h (fun v g1 => ∃ r, v = some (.inl r) ∧ wf g1 ∧ ((¬ (r = 0) → Q none g1) ∧ (r = 0 → am_R (am_prog scr) D f_M_fails 0 [some (.inr (.inr ((109 : Nat) : Int))), some (.inl (2))] [] g1 (fun v g2 => v = none ∧ wf g2 ∧ Q none g2)))) :=
  m_eats_f hD hs hw o ⟨_, rfl, hw, fun c => absurd rfl c, fun _ => m_fails_f hs hw o ⟨rfl, hw, H⟩⟩
theorem m_atom (hs : am_sc scr) (hI : inM scr T N I x D) (hG : inG N I a) : RcM scr T N (D + 2) f_M_readAtom [some (.inr (.inr ((109 : Nat) : Int))), some (.inl (x))] (atF T N I) := by
  intro h Q p n hw t o e hn H
  obtain ⟨hD, hI⟩ := hI
  have tN := t.1
  have pN := o.1.1
  have k9 := o.1.2.2.2.1
  unfold atF at H
  refine w_M_readAtom_0 hs hw (m_is hs hw o ⟨_, rfl, hw, fun c => ?_, fun c => ?_⟩)
  · have c1 : tkK T N p ≠ 25 := fun z => by rw [if_pos z] at c; omega
    rw [if_neg c1] at H
    refine ⟨fun z => absurd o.2 z, fun _ => ?_⟩
    rw [k9]
    refine m_wordOf hs hw ⟨_, rfl, hw, fun c2 => ?_, fun c2 => ?_⟩
    · rw [if_neg (fun z => z c2)] at H
      refine w_M_readAtom_66 hs hw (m_is hs hw o ⟨_, rfl, hw, fun c => ?_, fun c => ?_⟩)
      · have c3 : tkK T N p ≠ 35 := fun z => by rw [if_pos z] at c; omega
        rw [if_neg c3] at H
        refine m_is hs hw o ⟨_, rfl, hw, fun c => ?_, fun c => ?_⟩
        · have c4 : tkK T N p ≠ 13 := fun z => by rw [if_pos z] at c; omega
          rw [if_neg c4] at H
          exact m_fails hs hw o (by omega) (fun g wg fg og => ⟨rfl, wg, H g wg (fg.mono (by simp) (by decide)) (PM.fl og)⟩)
        · have c4 : tkK T N p = 13 := by
            by_cases z : tkK T N p = 13
            · exact z
            · rw [if_neg z] at c; exact absurd rfl c
          rw [if_pos c4] at H
          have gt := tk_gt pN (show tkK T N p ≠ 26 by omega)
          refine w_M_readIf_0 hs hw (m_goesIn (by omega) hs hw t o (fun cx g wg fg og eg => ⟨_, rfl, wg, fun _ => ?_, fun c => absurd c (by omega)⟩) (fun cx g wg fg og => ⟨_, rfl, wg, fun c => absurd rfl c, fun _ => ⟨rfl, wg, ?_⟩⟩))
          · rcases hI with ⟨i1, i2⟩ | ⟨J, rfl, i2, j0, j1, j2⟩
            · omega
            simp only at H
            rw [am_w_id (by omega) (by omega)]
            have tg := t.fr2 fg
            have hGJ := (hG.2 J rfl).2
            refine j2 g _ (tkE T N p) n wg tg og (by rw [eg]; exact e) (by omega) (fun g3 w3 f3 P3 => ⟨rfl, w3, ?_⟩)
            have F3 := fg.trans f3
            -- what is left from 30 on when a fault stands
            have f51 : ∀ (k : am_H) (ee : Int × Int), wf k → fr [113] RMF h k → flM k ee → (∀ g, wf g → fr [113] RMF h g → PM T N h g n (.inl ee) → Q none g) → am_R (am_prog scr) (D + 1) f_M_readIf 51 [some (.inr (.inr ((109 : Nat) : Int))), some (.inl (x))] [] k (fun v g => v = none ∧ wf g ∧ Q none g) := by
              intro k ee wk fk lk HH
              rcases D with _ | D
              · omega
              refine w_M_readIf_51 hs wk (m_sum_f (e := ee) (by omega) hs wk lk ⟨rfl, wk, ?_⟩)
              refine m_eats_f (e := ee) (by omega) hs wk lk ⟨_, rfl, wk, fun c => absurd rfl c, fun _ => m_fails_f hs wk lk ⟨rfl, wk, m_codes_f hs wk lk ⟨rfl, wk, rfl, wk, HH k wk fk (PM.fl lk)⟩⟩⟩
            have f30 : ∀ (k : am_H) (ee : Int × Int), wf k → fr [113] RMF h k → flM k ee → (∀ g, wf g → fr [113] RMF h g → PM T N h g n (.inl ee) → Q none g) → am_R (am_prog scr) (D + 1) f_M_readIf 30 [some (.inr (.inr ((109 : Nat) : Int))), some (.inl (x))] [] k (fun v g => v = none ∧ wf g ∧ Q none g) := by
              intro k ee wk fk lk HH
              refine w_M_readIf_30 hs wk (m_sum_f (e := ee) (by omega) hs wk lk ⟨rfl, wk, ?_⟩)
              exact m_eats_f (e := ee) (by omega) hs wk lk ⟨_, rfl, wk, fun c => absurd rfl c, fun _ => m_fails_f hs wk lk ⟨rfl, wk, f51 k ee wk fk lk HH⟩⟩
            cases hr : J 2 (tkE T N p) with
            | inl ee =>
              rw [hr] at P3 H
              have fl : flM g3 ee := P3
              exact m_eats_f (e := ee) (by omega) hs w3 fl ⟨_, rfl, w3, fun c => absurd rfl c, fun _ => m_fails_f hs w3 fl ⟨rfl, w3, f30 g3 ee w3 F3 fl H⟩⟩
            | inr y =>
              rw [hr] at P3 H
              obtain ⟨o3, d3⟩ : okM g3 T N y.1 ∧ dM g g3 n y.2.1 := P3
              have gy := hGJ 2 _ y gt.2 hr
              simp only [pB] at H
              have t3 := tg.fr2 f3
              refine m_eats (by omega) hs w3 t3 o3 (fun q g4 w4 f4 o4 e4 => ⟨_, rfl, w4, fun _ => ?_, fun c => absurd c (by omega)⟩) (fun q => ⟨_, rfl, w3, fun c => absurd rfl c, fun _ => ?_⟩)
              · unfold pW at H
                rw [if_pos q] at H
                simp only [pB] at H
                have gt2 := tk_gt gy.2.1 (show tkK T N y.1 ≠ 26 by omega)
                have F4 := F3.trans f4
                have t4 := t3.fr2 f4
                have d4 := (d3.of eg.symm).to e4
                refine w_M_readIf_30 hs w4 ?_
                rw [am_w_id (by omega) (by omega)]
                refine j0 g4 _ (tkE T N y.1) (n + y.2.1.length) w4 t4 o4 d4.1 (by have := gy.2.2.2.1; omega) (fun g5 w5 f5 P5 => ⟨rfl, w5, ?_⟩)
                have F5 := F4.trans f5
                cases hr2 : J 0 (tkE T N y.1) with
                | inl ee =>
                  rw [hr2] at P5 H
                  have fl : flM g5 ee := P5
                  exact m_eats_f (e := ee) (by omega) hs w5 fl ⟨_, rfl, w5, fun c => absurd rfl c, fun _ => m_fails_f hs w5 fl ⟨rfl, w5, f51 g5 ee w5 F5 fl H⟩⟩
                | inr z =>
                  rw [hr2] at P5 H
                  obtain ⟨o5, d5⟩ : okM g5 T N z.1 ∧ dM g4 g5 (n + y.2.1.length) z.2.1 := P5
                  have gz := hGJ 0 _ z gt2.2 hr2
                  simp only [pB] at H
                  have t5 := t4.fr2 f5
                  refine m_eats (by omega) hs w5 t5 o5 (fun q2 g6 w6 f6 o6 e6 => ⟨_, rfl, w6, fun _ => ?_, fun c => absurd c (by omega)⟩) (fun q2 => ⟨_, rfl, w5, fun c => absurd rfl c, fun _ => ?_⟩)
                  · rw [if_pos q2] at H
                    simp only [pB] at H
                    have gt3 := tk_gt gz.2.1 (show tkK T N z.1 ≠ 26 by omega)
                    have F6 := F5.trans f6
                    have t6 := t5.fr2 f6
                    have d6 := (d4.app d5).to e6
                    refine w_M_readIf_51 hs w6 ?_
                    rw [am_w_id (by omega) (by omega)]
                    refine j0 g6 _ (tkE T N z.1) (n + (y.2.1 ++ z.2.1).length) w6 t6 o6 d6.1 (by have := gy.2.2.2.1; have := gz.2.2.2.1; rw [List.length_append]; omega) (fun g7 w7 f7 P7 => ⟨rfl, w7, ?_⟩)
                    have F7 := F6.trans f7
                    cases hr3 : J 0 (tkE T N z.1) with
                    | inl ee =>
                      rw [hr3] at P7 H
                      have fl : flM g7 ee := P7
                      exact m_eats_f (e := ee) (by omega) hs w7 fl ⟨_, rfl, w7, fun c => absurd rfl c, fun _ => m_fails_f hs w7 fl ⟨rfl, w7, m_codes_f hs w7 fl ⟨rfl, w7, rfl, w7, H g7 w7 F7 (PM.fl fl)⟩⟩⟩
                    | inr u =>
                      rw [hr3] at P7 H
                      obtain ⟨o7, d7⟩ : okM g7 T N u.1 ∧ dM g6 g7 (n + (y.2.1 ++ z.2.1).length) u.2.1 := P7
                      have gu := hGJ 0 _ u gt3.2 hr3
                      simp only [pB] at H
                      have t7 := t6.fr2 f7
                      refine m_eats (by omega) hs w7 t7 o7 (fun q3 g8 w8 f8 o8 e8 => ⟨_, rfl, w8, fun _ => ?_, fun c => absurd c (by omega)⟩) (fun q3 => ⟨_, rfl, w7, fun c => absurd rfl c, fun _ => ?_⟩)
                      · rw [if_pos q3] at H
                        simp only at H
                        have gt4 := tk_gt gu.2.1 (show tkK T N u.1 ≠ 26 by omega)
                        have d8 := (d6.app d7).to e8
                        have F8 := F7.trans f8
                        refine m_codes hs w8 o8 d8.1 (by have := gy.2.2.2.1; have := gz.2.2.2.1; have := gu.2.2.2.1; rw [List.length_append, List.length_append]; omega) (fun g9 w9 f9 o9 d9 => ⟨rfl, w9, rfl, w9, ?_⟩)
                        refine H g9 w9 (F8.trans f9) (PM.ok o9 ?_)
                        have := d8.app d9
                        simp only [ifX]
                        rw [List.append_assoc, List.append_assoc] at this
                        exact this
                      · rw [if_neg q3] at H
                        simp only [pF] at H
                        refine m_fails hs w7 o7 (by omega) (fun g8 w8 f8 l8 => ⟨rfl, w8, ?_⟩)
                        exact m_codes_f hs w8 l8 ⟨rfl, w8, rfl, w8, H g8 w8 (F7.trans (f8.mono (by simp) (by decide))) (PM.fl l8)⟩
                  · rw [if_neg q2] at H
                    simp only [pF] at H
                    exact m_fails hs w5 o5 (by omega) (fun g6 w6 f6 l6 => ⟨rfl, w6, f51 g6 _ w6 (F5.trans (f6.mono (by simp) (by decide))) l6 H⟩)
              · unfold pW at H
                rw [if_neg q] at H
                simp only [pF, pB] at H
                exact m_fails hs w3 o3 (by omega) (fun g4 w4 f4 l4 => ⟨rfl, w4, f30 g4 _ w4 (F3.trans (f4.mono (by simp) (by decide))) l4 H⟩)
          · rcases hI with ⟨rfl, i2⟩ | ⟨J, rfl, i2, j0, j1, j2⟩
            · exact H g wg fg (PM.fl og)
            · omega
      · have c3 : tkK T N p = 35 := by
          by_cases z : tkK T N p = 35
          · exact z
          · rw [if_neg z] at c; exact absurd rfl c
        rw [if_pos c3] at H
        have gt := tk_gt pN (show tkK T N p ≠ 26 by omega)
        refine m_goesIn (by omega) hs hw t o (fun cx g wg fg og eg => ⟨_, rfl, wg, fun _ => ?_, fun c => absurd c (by omega)⟩) (fun cx g wg fg og => ⟨_, rfl, wg, fun c => absurd rfl c, fun _ => ?_⟩)
        · rcases hI with ⟨i1, i2⟩ | ⟨J, rfl, i2, j0, j1, j2⟩
          · omega
          simp only at H
          rw [am_w_id (by omega) (by omega)]
          have tg := t.fr2 fg
          refine am_R.deep (j0 g _ (tkE T N p) n wg tg og (by rw [eg]; exact e) (by omega) (fun g3 w3 f3 P3 => ⟨rfl, w3, ?_⟩))
          have F3 := fg.trans f3
          cases hr : J 0 (tkE T N p) with
          | inl ee =>
            rw [hr] at P3 H
            exact m_eaf_f (e := ee) (by omega) hs w3 P3 (H g3 w3 F3 (PM.fl P3))
          | inr y =>
            rw [hr] at P3 H
            obtain ⟨o3, d3⟩ : okM g3 T N y.1 ∧ dM g g3 n y.2.1 := P3
            simp only [pB, pW] at H
            refine m_eaf (by omega) hs w3 (tg.fr2 f3) o3 (fun q g4 w4 f4 o4 e4 => ?_) (fun q g4 w4 f4 l4 => ?_)
            · rw [if_pos q] at H
              exact H g4 w4 (F3.trans f4) (PM.ok o4 ((d3.of eg.symm).to e4))
            · rw [if_neg q] at H
              exact H g4 w4 (F3.trans f4) (PM.fl l4)
        · rcases hI with ⟨rfl, i2⟩ | ⟨J, rfl, i2, j0, j1, j2⟩
          · exact H g wg fg (PM.fl og)
          · omega
    · rw [if_pos c2] at H
      rw [k9]
      have wb_ := wdO_b (tkK T N p)
      have gt := tk_gt pN (show tkK T N p ≠ 26 by omega)
      refine m_wordOf hs hw ⟨_, rfl, hw, ?_⟩
      rw [am_w_id (by omega) (by omega)]
      refine m_codes hs hw o e (by omega) (fun g wg fg og dg => ⟨rfl, wg, ?_⟩)
      exact m_next (by omega) hs wg (t.fr2 fg) og (fun g2 w2 f2 o2 e2 => ⟨rfl, w2, H g2 w2 (fg.trans f2) (PM.ok o2 (dg.to e2))⟩)
  · have c1 : tkK T N p = 25 := by
      by_cases z : tkK T N p = 25
      · exact z
      · rw [if_neg z] at c; exact absurd rfl c
    rw [if_pos c1] at H
    have gt := tk_gt pN (show tkK T N p ≠ 26 by omega)
    rw [o.1.2.2.2.2 c1]
    refine m_codes hs hw o e (by omega) (fun g wg fg og dg => ⟨rfl, wg, ?_⟩)
    exact m_next (by omega) hs wg (t.fr2 fg) og (fun g2 w2 f2 o2 e2 => ⟨rfl, w2, H g2 w2 (fg.trans f2) (PM.ok o2 (dg.to e2))⟩)
end RN
