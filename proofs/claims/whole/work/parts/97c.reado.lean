/-! reading: the reference, the rest of a level -/
section RO
variable {scr : Nat × (Nat → Int)} {d : Nat} {h : am_H} {Q : Option am_V → am_H → Prop} {T : Nat → Int} {N p n D a : Nat} {I : Option (Nat → Nat → PR)} {x : Int}
theorem gdX.len {N nd p : Nat} {tv : Bool} {x : PX} (g : gdX N nd tv p x) : p < x.1 ∧ x.1 ≤ N ∧ p + x.2.1.length ≤ x.1 := ⟨g.1, g.2.1, g.2.2.2.1⟩
theorem m_term (hs : am_sc scr) (hT : ∀ k, 0 ≤ T k ∧ T k < 256) (hI : inM scr T N I x D) (hG : inG N I a) : RcM scr T N (D + 3) f_M_readTerm [some (.inr (.inr ((109 : Nat) : Int))), some (.inl (x))] (teF T N I) := by
  intro h Q p n hw t o e hn H
  have hD := hI.1
  have tN := t.1
  refine w_M_readTerm_0 hs hw (m_atom hs hI hG h _ p n hw t o e hn (fun g wg fg P => ⟨rfl, wg, ?_⟩))
  unfold teF at H
  cases hr : atF T N I p with
  | inl ee =>
    rw [hr] at P H
    exact w_M_readTerm_5 hs wg (m_eats_f (e := ee) (by omega) hs wg P ⟨_, rfl, wg, fun _ => H g wg fg (PM.fl P), fun c => absurd rfl c⟩)
  | inr y =>
    rw [hr] at P H
    obtain ⟨o3, d3⟩ : okM g T N y.1 ∧ dM h g n y.2.1 := P
    have gy := (atF_gd hT hG o.1.1 hr).len
    exact m_loop hs (fun k => rfl) (by omega) (by decide) (by omega) (by omega) (m_atom hs hI hG) (fun p z hp hz => (atF_gd hT hG hp hz).len) (fun h Q hw HH => w_M_readTerm_5 hs hw HH) hn 900 y g (by omega) gy.2.1 gy.2.2 wg fg (t.fr2 fg) o3 d3 H
theorem m_sum (hs : am_sc scr) (hT : ∀ k, 0 ≤ T k ∧ T k < 256) (hI : inM scr T N I x D) (hG : inG N I a) : RcM scr T N (D + 4) f_M_readSum [some (.inr (.inr ((109 : Nat) : Int))), some (.inl (x)), none] (suF T N I) := by
  intro h Q p n hw t o e hn H
  have hD := hI.1
  have tN := t.1
  have mt := m_term hs hT hI hG
  have lp : ∀ (m : Nat) (y : PX) (g : am_H), N < y.1 + m → y.1 ≤ N → p + y.2.1.length ≤ y.1 → wf g → fr [113] RMF h g → okM g T N y.1 → dM h g n y.2.1 → (∀ g, wf g → fr [113] RMF h g → PM T N h g n (binL T N (teF T N I) opA m y) → Q none g) → am_R (am_prog scr) (D + 4) f_M_readSum 5 [some (.inr (.inr ((109 : Nat) : Int))), some (.inl (x)), none] [] g Q := by
    intro m
    induction m with
    | zero => intro y g h1 h2; omega
    | succ m ih =>
      intro y g h1 h2 h3 wg fg og dy H
      simp only [binL] at H
      have tg := t.fr2 fg
      -- the sign stands
      have sg : ∀ (op : Int), (op = 0 ∨ op = 1) → opA (tkK T N y.1) = op → ∀ (K : am_H → Prop), (∀ k, wf k → K k → True) → True := fun _ _ _ _ _ => trivial
      have fin : ∀ (op code : Int), (op = 0 ∨ op = 1) → code = 3000 + op → opA (tkK T N y.1) = op → tkK T N y.1 ≠ 26 → am_R (am_prog scr) (D + 3) f_M_next 0 [some (.inr (.inr ((109 : Nat) : Int))), none] [] g (fun v g1 => v = none ∧ wf g1 ∧ (am_R (am_prog scr) (D + 3) f_M_readTerm 0 [some (.inr (.inr ((109 : Nat) : Int))), some (.inl (x))] [] g1 (fun v g2 => v = none ∧ wf g2 ∧ (am_R (am_prog scr) (D + 3) f_M_codes 0 [some (.inr (.inr ((109 : Nat) : Int))), some (.inl (code))] [] g2 (fun v g3 => v = none ∧ wf g3 ∧ (am_R (am_prog scr) (D + 4) f_M_readSum 5 [some (.inr (.inr ((109 : Nat) : Int))), some (.inl (x)), none] [] g3 Q)))))) := by
        intro op code ho hc ek k26
        rw [ek, if_neg (by omega)] at H
        have gt := tk_gt h2 k26
        refine m_next (by omega) hs wg tg og (fun g2 w2 f2 o2 e2 => ⟨rfl, w2, ?_⟩)
        have n2 : g2.2.2.2 113 211 = ((n + y.2.1.length : Nat) : Int) := by rw [e2]; exact dy.1
        refine mt g2 _ (tkE T N y.1) (n + y.2.1.length) w2 (tg.fr2 f2) o2 n2 (by omega) (fun g3 w3 f3 P3 => ⟨rfl, w3, ?_⟩)
        have F3 := (fg.trans f2).trans f3
        cases hr : teF T N I (tkE T N y.1) with
        | inl ee =>
          rw [hr] at P3 H
          have fl : flM g3 ee := P3
          refine m_codes_f hs w3 fl ⟨rfl, w3, ?_⟩
          refine w_M_readSum_5 hs w3 (m_is_f hs w3 fl ⟨_, rfl, w3, fun c => absurd rfl c, fun _ => ?_⟩)
          exact m_is_f hs w3 fl ⟨_, rfl, w3, fun _ => H g3 w3 F3 (PM.fl fl), fun c => absurd rfl c⟩
        | inr z =>
          rw [hr] at P3 H
          obtain ⟨o3, d3⟩ : okM g3 T N z.1 ∧ dM g2 g3 (n + y.2.1.length) z.2.1 := P3
          have gz := (teF_gd hT hG gt.2 hr).len
          refine m_codes hs w3 o3 d3.1 (by omega) (fun g4 w4 f4 o4 d4 => ⟨rfl, w4, ?_⟩)
          have dd : dM h g4 n (binX op y z).2.1 := by
            simp only [binX]
            rw [← hc]
            exact dy.app ((d3.of e2.symm).app d4)
          exact ih (binX op y z) g4 (by simp only [binX]; omega) (by simp only [binX]; omega) (by simp only [binX, List.length_append, List.length_singleton]; omega) w4 (F3.trans f4) o4 dd H
      have k9 := og.1.2.2.2.1
      have s23 : tkK T N y.1 = 32 ∨ tkK T N y.1 = 33 → am_R (am_prog scr) (D + 4) f_M_readSum 23 [some (.inr (.inr ((109 : Nat) : Int))), some (.inl (x)), none] [] g Q := by
        intro q
        refine w_M_readSum_23 hs wg ?_
        rw [k9]
        refine ⟨fun c => fin 1 3001 (by omega) (by omega) ?_ (by omega), fun c => fin 0 3000 (by omega) (by omega) ?_ (by omega)⟩
        · have : tkK T N y.1 = 33 := by omega
          rw [this]; rfl
        · rw [c]; rfl
      refine w_M_readSum_5 hs wg (m_is hs wg og ⟨_, rfl, wg, fun c => ?_, fun c => ?_⟩)
      · refine s23 (Or.inl ?_)
        by_cases z : tkK T N y.1 = 32
        · exact z
        · rw [if_neg z] at c; exact absurd rfl c
      · have n32 : tkK T N y.1 ≠ 32 := fun z => by rw [if_pos z] at c; omega
        refine m_is hs wg og ⟨_, rfl, wg, fun c => ?_, fun c => ?_⟩
        · have n33 : tkK T N y.1 ≠ 33 := fun z => by rw [if_pos z] at c; omega
          have e1 : opA (tkK T N y.1) = -1 := by unfold opA; rw [if_neg n32, if_neg n33]
          rw [e1, if_pos rfl] at H
          exact H g wg fg (PM.ok og dy)
        · refine s23 (Or.inr ?_)
          by_cases z : tkK T N y.1 = 33
          · exact z
          · rw [if_neg z] at c; exact absurd rfl c
  unfold suF at H
  refine w_M_readSum_0 hs hw (mt h _ p n hw t o e hn (fun g wg fg P => ⟨rfl, wg, ?_⟩))
  cases hr : teF T N I p with
  | inl ee =>
    rw [hr] at P H
    refine w_M_readSum_5 hs wg (m_is_f (e := ee) hs wg P ⟨_, rfl, wg, fun c => absurd rfl c, fun _ => ?_⟩)
    exact m_is_f (e := ee) hs wg P ⟨_, rfl, wg, fun _ => H g wg fg (PM.fl P), fun c => absurd rfl c⟩
  | inr y =>
    rw [hr] at P H
    obtain ⟨o3, d3⟩ : okM g T N y.1 ∧ dM h g n y.2.1 := P
    have gy := (teF_gd hT hG o.1.1 hr).len
    exact lp 900 y g (by omega) gy.2.1 gy.2.2 wg fg o3 d3 H
theorem m_unit (hs : am_sc scr) (hT : ∀ k, 0 ≤ T k ∧ T k < 256) (hI : inM scr T N I x D) (hG : inG N I a) : RcM scr T N (D + 5) f_M_readUnit [some (.inr (.inr ((109 : Nat) : Int))), some (.inl (x)), none] (unF T N I) := by
  intro h Q p n hw t o e hn H
  have hD := hI.1
  have tN := t.1
  have pN := o.1.1
  have mt := m_sum hs hT hI hG
  obtain ⟨_, hI⟩ := hI
  unfold unF at H
  refine w_M_readUnit_0 hs hw (m_is hs hw o ⟨_, rfl, hw, fun c => ?_, fun c => ?_⟩)
  · have c1 : tkK T N p ≠ 23 := fun z => by rw [if_pos z] at c; omega
    rw [if_neg c1] at H
    refine m_is hs hw o ⟨_, rfl, hw, fun c => ?_, fun c => ?_⟩
    · have c2 : tkK T N p ≠ 37 := fun z => by rw [if_pos z] at c; omega
      rw [if_neg c2] at H
      refine mt h _ p n hw t o e hn (fun g wg fg P => ⟨rfl, wg, ?_⟩)
      have f151 : ∀ (k : am_H) (ee : Int × Int) (cd : Int), wf k → fr [113] RMF h k → flM k ee → (∀ g, wf g → fr [113] RMF h g → PM T N h g n (.inl ee) → Q none g) → am_R (am_prog scr) (D + 5) f_M_readUnit 151 [some (.inr (.inr ((109 : Nat) : Int))), some (.inl (x)), some (.inl (cd))] [] k Q := by
        intro k ee cd wk fk lk HH
        exact w_M_readUnit_151 hs wk (m_sum_f (e := ee) (by omega) hs wk lk ⟨rfl, wk, m_codes_f hs wk lk ⟨rfl, wk, HH k wk fk (PM.fl lk)⟩⟩)
      cases hr : suF T N I p with
      | inl ee =>
        rw [hr] at P H
        have fl : flM g ee := P
        have go : ∀ cd : Int, am_R (am_prog scr) (D + 4) f_M_fails 0 [some (.inr (.inr ((109 : Nat) : Int))), some (.inl (2))] [] g (fun v g16 => v = none ∧ wf g16 ∧ (am_R (am_prog scr) (D + 5) f_M_readUnit 151 [some (.inr (.inr ((109 : Nat) : Int))), some (.inl (x)), some (.inl (cd))] [] g16 Q)) := fun cd => m_fails_f hs wg fl ⟨rfl, wg, f151 g ee cd wg fg fl H⟩
        refine m_is_f hs wg fl ⟨_, rfl, wg, fun _ => ?_, fun c => absurd rfl c⟩
        refine m_is_f hs wg fl ⟨_, rfl, wg, fun _ => ?_, fun c => absurd rfl c⟩
        refine m_is_f hs wg fl ⟨_, rfl, wg, fun c => absurd rfl c, fun _ => ?_⟩
        refine m_is_f hs wg fl ⟨_, rfl, wg, fun c => absurd rfl c, fun _ => ?_⟩
        exact m_is_f hs wg fl ⟨_, rfl, wg, fun _ => go 3005, fun c => absurd rfl c⟩
      | inr y =>
        rw [hr] at P H
        obtain ⟨og, dy⟩ : okM g T N y.1 ∧ dM h g n y.2.1 := P
        have gy := (suF_gd hT hG pN hr).len
        have tg := t.fr2 fg
        simp only [pB] at H
        have k1 : ∀ k : Int, tkK T N y.1 = k → (if tkK T N y.1 = k then (1 : Int) else 0) = 1 := fun k z => if_pos z
        have fin : ∀ (op code : Int), (3 ≤ op ∧ op ≤ 5) → code = 3000 + op → opC (tkK T N y.1) = op → am_R (am_prog scr) (D + 5) f_M_readUnit 139 [some (.inr (.inr ((109 : Nat) : Int))), some (.inl (x)), some (.inl (code))] [] g Q := by
          intro op code ho hc ek
          have k26 := (opC_b (tkK T N y.1) (by omega)).2
          rw [ek, if_neg (by omega)] at H
          have gt := tk_gt gy.2.1 k26
          refine w_M_readUnit_139 hs wg (m_next (by omega) hs wg tg og (fun g2 w2 f2 o2 e2 => ⟨rfl, w2, ?_⟩))
          have n2 : g2.2.2.2 113 211 = ((n + y.2.1.length : Nat) : Int) := by rw [e2]; exact dy.1
          refine w_M_readUnit_151 hs w2 (mt g2 _ (tkE T N y.1) (n + y.2.1.length) w2 (tg.fr2 f2) o2 n2 (by omega) (fun g3 w3 f3 P3 => ⟨rfl, w3, ?_⟩))
          have F3 := (fg.trans f2).trans f3
          cases hr2 : suF T N I (tkE T N y.1) with
          | inl ee =>
            rw [hr2] at P3 H
            have fl : flM g3 ee := P3
            exact m_codes_f hs w3 fl ⟨rfl, w3, H g3 w3 F3 (PM.fl fl)⟩
          | inr z =>
            rw [hr2] at P3 H
            obtain ⟨o3, d3⟩ : okM g3 T N z.1 ∧ dM g2 g3 (n + y.2.1.length) z.2.1 := P3
            have gz := (suF_gd hT hG gt.2 hr2).len
            refine m_codes hs w3 o3 d3.1 (by omega) (fun g4 w4 f4 o4 d4 => ⟨rfl, w4, ?_⟩)
            refine H g4 w4 (F3.trans f4) (PM.ok o4 ?_)
            simp only [binX]
            rw [← hc]
            exact dy.app ((d3.of e2.symm).app d4)
        refine m_is hs wg og ⟨_, rfl, wg, fun c => ?_, fun c => ?_⟩
        · have n39 : tkK T N y.1 ≠ 39 := fun z => by rw [if_pos z] at c; omega
          refine m_is hs wg og ⟨_, rfl, wg, fun c => ?_, fun c => ?_⟩
          · have n40 : tkK T N y.1 ≠ 40 := fun z => by rw [if_pos z] at c; omega
            refine m_is hs wg og ⟨_, rfl, wg, fun c => ?_, fun _ => ?_⟩
            · exfalso; rw [if_neg n39] at c; exact c rfl
            · refine m_is hs wg og ⟨_, rfl, wg, fun c => ?_, fun _ => ?_⟩
              · exfalso; rw [if_neg n40] at c; exact c rfl
              · refine m_is hs wg og ⟨_, rfl, wg, fun c => ?_, fun c => ?_⟩
                · have n41 : tkK T N y.1 ≠ 41 := fun z => by rw [if_pos z] at c; omega
                  have e1 : opC (tkK T N y.1) = -1 := by unfold opC; rw [if_neg n39, if_neg n40, if_neg n41]
                  rw [e1, if_pos rfl] at H
                  exact m_fails hs wg og (by omega) (fun g4 w4 f4 l4 => ⟨rfl, w4, f151 g4 _ 3005 w4 (fg.trans (f4.mono (by simp) (by decide))) l4 H⟩)
                · have q : tkK T N y.1 = 41 := by
                    by_cases z : tkK T N y.1 = 41
                    · exact z
                    · rw [if_neg z] at c; exact absurd rfl c
                  exact fin 5 3005 (by omega) (by omega) (by rw [q]; rfl)
          · have q : tkK T N y.1 = 40 := by
              by_cases z : tkK T N y.1 = 40
              · exact z
              · rw [if_neg z] at c; exact absurd rfl c
            refine m_is hs wg og ⟨_, rfl, wg, fun c => ?_, fun _ => ?_⟩
            · exfalso; rw [if_neg n39] at c; exact c rfl
            · refine m_is hs wg og ⟨_, rfl, wg, fun c => fin 4 3004 (by omega) (by omega) (by rw [q]; rfl), fun c => ?_⟩
              exfalso; rw [if_pos q] at c; omega
        · have q : tkK T N y.1 = 39 := by
            by_cases z : tkK T N y.1 = 39
            · exact z
            · rw [if_neg z] at c; exact absurd rfl c
          refine m_is hs wg og ⟨_, rfl, wg, fun c => fin 3 3003 (by omega) (by omega) (by rw [q]; rfl), fun c => ?_⟩
          exfalso; rw [if_pos q] at c; omega
    · have c2 : tkK T N p = 37 := by
        by_cases z : tkK T N p = 37
        · exact z
        · rw [if_neg z] at c; exact absurd rfl c
      rw [if_pos c2] at H
      have gt := tk_gt pN (show tkK T N p ≠ 26 by omega)
      refine m_goesIn (by omega) hs hw t o (fun cx g wg fg og eg => ⟨_, rfl, wg, fun _ => ?_, fun c => absurd c (by omega)⟩) (fun cx g wg fg og => ⟨_, rfl, wg, fun c => absurd rfl c, fun _ => ?_⟩)
      · rcases hI with ⟨i1, i2⟩ | ⟨J, rfl, i2, j0, j1, j2⟩
        · omega
        simp only at H
        rw [am_w_id (by omega) (by omega)]
        have tg := t.fr2 fg
        refine am_R.to (d := D) (by omega) (j2 g _ (tkE T N p) n wg tg og (by rw [eg]; exact e) (by omega) (fun g3 w3 f3 P3 => ⟨rfl, w3, ?_⟩))
        have F3 := fg.trans f3
        cases hr : J 2 (tkE T N p) with
        | inl ee =>
          rw [hr] at P3 H
          exact m_eaf_f (e := ee) (by omega) hs w3 P3 (H g3 w3 F3 (PM.fl P3))
        | inr y =>
          rw [hr] at P3 H
          obtain ⟨o3, d3⟩ : okM g3 T N y.1 ∧ dM g g3 n y.2.1 := P3
          simp only [pB, pW] at H
          refine m_eaf (by omega) hs w3 (tg.fr2 f3) o3 (fun q g4 w4 f4 o4 e4 => ?_) (fun q g4 w4 f4 l4 => ?_)
          · rw [if_pos q] at H
            exact H g4 w4 (F3.trans f4) (PM.ok o4 ((d3.of eg.symm).to e4))
          · rw [if_neg q] at H
            exact H g4 w4 (F3.trans f4) (PM.fl l4)
      · rcases hI with ⟨rfl, i2⟩ | ⟨J, rfl, i2, j0, j1, j2⟩
        · exact H g wg fg (PM.fl og)
        · omega
  · have c1 : tkK T N p = 23 := by
      by_cases z : tkK T N p = 23
      · exact z
      · rw [if_neg z] at c; exact absurd rfl c
    rw [if_pos c1] at H
    have gt := tk_gt pN (show tkK T N p ≠ 26 by omega)
    refine m_goesIn (by omega) hs hw t o (fun cx g wg fg og eg => ⟨_, rfl, wg, fun _ => ?_, fun c => absurd c (by omega)⟩) (fun cx g wg fg og => ⟨_, rfl, wg, fun c => absurd rfl c, fun _ => ?_⟩)
    · rcases hI with ⟨i1, i2⟩ | ⟨J, rfl, i2, j0, j1, j2⟩
      · omega
      simp only at H
      rw [am_w_id (by omega) (by omega)]
      have tg := t.fr2 fg
      refine am_R.to (d := D) (by omega) (j1 g _ (tkE T N p) n wg tg og (by rw [eg]; exact e) (by omega) (fun g3 w3 f3 P3 => ⟨rfl, w3, ?_⟩))
      have F3 := fg.trans f3
      cases hr : J 1 (tkE T N p) with
      | inl ee =>
        rw [hr] at P3 H
        exact m_codes_f (e := ee) hs w3 P3 ⟨rfl, w3, H g3 w3 F3 (PM.fl P3)⟩
      | inr y =>
        rw [hr] at P3 H
        obtain ⟨o3, d3⟩ : okM g3 T N y.1 ∧ dM g g3 n y.2.1 := P3
        have gy := ((hG.2 J rfl).2 1 _ y gt.2 hr).len
        refine m_codes hs w3 o3 d3.1 (by omega) (fun g4 w4 f4 o4 d4 => ⟨rfl, w4, ?_⟩)
        exact H g4 w4 (F3.trans f4) (PM.ok o4 ((d3.of eg.symm).app d4))
    · rcases hI with ⟨rfl, i2⟩ | ⟨J, rfl, i2, j0, j1, j2⟩
      · exact H g wg fg (PM.fl og)
      · omega
theorem m_both (hs : am_sc scr) (hT : ∀ k, 0 ≤ T k ∧ T k < 256) (hI : inM scr T N I x D) (hG : inG N I a) : RcM scr T N (D + 6) f_M_readBoth [some (.inr (.inr ((109 : Nat) : Int))), some (.inl (x))] (boF T N I) := by
  intro h Q p n hw t o e hn H
  have hD := hI.1
  have tN := t.1
  have mt := m_unit hs hT hI hG
  refine w_M_readBoth_0 hs hw (mt h _ p n hw t o e hn (fun g wg fg P => ⟨rfl, wg, ?_⟩))
  unfold boF at H
  cases hr : unF T N I p with
  | inl ee =>
    rw [hr] at P H
    exact w_M_readBoth_5 hs wg (m_eats_f (e := ee) (by omega) hs wg P ⟨_, rfl, wg, fun _ => H g wg fg (PM.fl P), fun c => absurd rfl c⟩)
  | inr y =>
    rw [hr] at P H
    obtain ⟨o3, d3⟩ : okM g T N y.1 ∧ dM h g n y.2.1 := P
    have gy := (unF_gd hT hG o.1.1 hr).len
    exact m_loop hs (fun k => rfl) (by omega) (by decide) (by omega) (by omega) mt (fun p z hp hz => (unF_gd hT hG hp hz).len) (fun h Q hw HH => w_M_readBoth_5 hs hw HH) hn 900 y g (by omega) gy.2.1 gy.2.2 wg fg (t.fr2 fg) o3 d3 H
theorem m_truth (hs : am_sc scr) (hT : ∀ k, 0 ≤ T k ∧ T k < 256) (hI : inM scr T N I x D) (hG : inG N I a) : RcM scr T N (D + 7) f_M_readTruth [some (.inr (.inr ((109 : Nat) : Int))), some (.inl (x))] (trF T N I) := by
  intro h Q p n hw t o e hn H
  have hD := hI.1
  have tN := t.1
  have mt := m_both hs hT hI hG
  refine w_M_readTruth_0 hs hw (mt h _ p n hw t o e hn (fun g wg fg P => ⟨rfl, wg, ?_⟩))
  unfold trF at H
  cases hr : boF T N I p with
  | inl ee =>
    rw [hr] at P H
    exact w_M_readTruth_5 hs wg (m_eats_f (e := ee) (by omega) hs wg P ⟨_, rfl, wg, fun _ => H g wg fg (PM.fl P), fun c => absurd rfl c⟩)
  | inr y =>
    rw [hr] at P H
    obtain ⟨o3, d3⟩ : okM g T N y.1 ∧ dM h g n y.2.1 := P
    have gy := (boF_gd hT hG o.1.1 hr).len
    exact m_loop hs (fun k => rfl) (by omega) (by decide) (by omega) (by omega) mt (fun p z hp hz => (boF_gd hT hG hp hz).len) (fun h Q hw HH => w_M_readTruth_5 hs hw HH) hn 900 y g (by omega) gy.2.1 gy.2.2 wg fg (t.fr2 fg) o3 d3 H
theorem RcM.to {D E f : Nat} {lv : am_Lv} {F : Nat → PR} (c : RcM scr T N D f lv F) (hd : D ≤ E) : RcM scr T N E f lv F := fun h Q p n a1 a2 a3 a4 a5 a6 => am_R.to hd (c h Q p n a1 a2 a3 a4 a5 a6)
theorem m_lev (hs : am_sc scr) (hT : ∀ k, 0 ≤ T k ∧ T k < 256) : ∀ k, k ≤ 6 → inM scr T N (lvJ T N k) (6 - (k : Int)) (12 + 7 * k) := by
  intro k
  induction k with
  | zero => intro _; exact ⟨by omega, Or.inl ⟨rfl, by omega⟩⟩
  | succ k ih =>
    intro hk
    have i := ih (by omega)
    have g := lv_gd (N := N) hT k
    have e : (6 - ((k + 1 : Nat) : Int)) + 1 = 6 - (k : Int) := by omega
    refine ⟨by omega, Or.inr ⟨lvP T N k, rfl, by omega, ?_, ?_, ?_⟩⟩
    · rw [e, lv_md]
      exact (m_sum hs hT i g).to (by omega)
    · rw [e, lv_md]
      exact (m_unit hs hT i g).to (by omega)
    · rw [e, lv_md]
      exact (m_truth hs hT i g).to (by omega)
theorem m_law (hs : am_sc scr) (hT : ∀ k, 0 ≤ T k ∧ T k < 256) : RcM scr T N 58 f_M_readSum [some (.inr (.inr ((109 : Nat) : Int))), some (.inl (0)), none] (lawF T N) := m_sum hs hT (m_lev hs hT 6 (by omega)) (lv_gd hT 6)
end RO
