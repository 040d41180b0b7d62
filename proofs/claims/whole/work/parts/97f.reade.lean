/-! reading: the class, level by level -/
def inC (scr : Nat × (Nat → Int)) (T : Nat → Int) (N : Nat) (I : Option (Nat → Nat → PR)) (x : Int) (k D : Nat) : Prop := 12 ≤ D ∧ ((I = none ∧ x = 6) ∨ ∃ J k', I = some J ∧ k = k' + 1 ∧ (0 ≤ x ∧ x < 6) ∧ RcC scr T N k' D f_Reader_readSum [some (.inr (.inr (((2) : Nat) : Int))), some (.inl (x + 1)), none, none, none, none] (J 0) ∧ RcC scr T N k' D f_Reader_readUnit [some (.inr (.inr (((2) : Nat) : Int))), some (.inl (x + 1))] (J 1) ∧ RcC scr T N k' D f_Reader_readTruth [some (.inr (.inr (((2) : Nat) : Int))), some (.inl (x + 1)), none] (J 2))
section RF
variable {scr : Nat × (Nat → Int)} {d : Nat} {h : am_H} {Q : Option am_V → am_H → Prop} {T : Nat → Int} {N M p b D a k : Nat} {I : Option (Nat → Nat → PR)} {x : Int}
theorem yes10 {P : Prop} [Decidable P] (c : ¬ (if P then (1 : Int) else 0) = 0) : P := Decidable.not_not.mp (fun z => c (ite10.mpr z))
theorem c_atom (hs : am_sc scr) (hI : inC scr T N I x k D) (hG : inG N I a) : RcC scr T N k (D + 2) f_Reader_readAtom [some (.inr (.inr (((2) : Nat) : Int))), some (.inl (x)), none] (atF T N I) := by
  intro h Q p b s M hw t o eb hb hk hM H
  obtain ⟨hD, hI⟩ := hI
  have tN := t.1
  have pN := o.1.1
  have hz : 0 ≤ h.2.2.2 2 2 ∧ h.2.2.2 2 2 ≤ (M : Int) := by rw [eb]; omega
  have wo := wdO_b (tkK T N p)
  unfold atF at H
  refine w_Reader_readAtom_0 hs hw (c_ok hs hw o ⟨_, rfl, hw, fun _ => ?_, fun c => absurd c (by omega)⟩)
  refine c_named (by omega) hs hw t o.1 ⟨_, rfl, hw, fun c1 => ?_, fun c1 => ?_⟩
  · refine c_num hs hw t o.1 ⟨_, rfl, hw, fun c2 => ?_, fun c2 => ?_⟩
    · have c2 := ite10.mp c2
      rw [if_neg c2, if_neg (fun z => z (by omega))] at H
      refine c_is (j := 19) (by omega) hs hw t o.1 (by omega) (by omega) ⟨_, rfl, hw, fun c3 => ?_, fun c3 => ?_⟩
      · have c3 : ¬ tkK T N p = 35 := ite10.mp c3
        rw [if_neg c3] at H
        refine c_is (j := 21) (by omega) hs hw t o.1 (by omega) (by omega) ⟨_, rfl, hw, fun c4 => ?_, fun c4 => ?_⟩
        · have c4 : ¬ tkK T N p = 13 := ite10.mp c4
          rw [if_neg c4] at H
          exact c_ref hs hw t o (by omega) hz (fun g wg fg og => ⟨rfl, wg, H g wg fg (PK.fl og)⟩)
        · have c4 : tkK T N p = 13 := yes10 c4
          rw [if_pos c4] at H
          have gt := tk_gt pN (show tkK T N p ≠ 26 by omega)
          refine c_go (by omega) hs hw t o hz (fun cx g wg fg og e5 e2 => ⟨_, rfl, wg, fun c => absurd c (by omega), fun _ => ?_⟩) (fun cx g wg fg og => ⟨_, rfl, wg, fun _ => ?_, fun c => absurd rfl c⟩)
          · rcases hI with ⟨i1, i2⟩ | ⟨J, k', rfl, rfl, i2, j0, j1, j2⟩
            · omega
            simp only at H
            rw [am_w_id (by omega) (by omega)]
            refine c_choice (b := b) (s := s + 1) (M := M) (by omega) hs hG j0 j2 wg (t.fr2 fg) og (by rw [e2]; exact eb) (by omega) (by omega) (by omega) (fun g2 w2 f2 P2 => ⟨rfl, w2, H g2 w2 (fg.trans f2) ?_⟩)
            revert P2
            generalize pB (J 2 (tkE T N p)) _ = r
            intro P2
            cases r with
            | inl ee => exact P2
            | inr z => exact ⟨P2.1, P2.2.of e5.symm⟩
          · rcases hI with ⟨rfl, i2⟩ | ⟨J, k', rfl, rfl, i2, j0, j1, j2⟩
            · exact H g wg fg (PK.fl og)
            · omega
      · have c3 : tkK T N p = 35 := yes10 c3
        rw [if_pos c3] at H
        have gt := tk_gt pN (show tkK T N p ≠ 26 by omega)
        refine c_go (by omega) hs hw t o hz (fun cx g wg fg og e5 e2 => ⟨_, rfl, wg, fun c => absurd c (by omega), fun _ => ?_⟩) (fun cx g wg fg og => ⟨_, rfl, wg, fun _ => ?_, fun c => absurd rfl c⟩)
        · rcases hI with ⟨i1, i2⟩ | ⟨J, k', rfl, rfl, i2, j0, j1, j2⟩
          · omega
          simp only at H
          rw [am_w_id (by omega) (by omega)]
          have tg := t.fr2 fg
          refine am_R.deep (j0 g _ (tkE T N p) b (s + 1) M wg tg og (by rw [e2]; exact eb) (by omega) (by omega) (by omega) (fun g3 w3 f3 P3 => ⟨rfl, w3, ?_⟩))
          have F3 := fg.trans f3
          cases hr : J 0 (tkE T N p) with
          | inl ee =>
            rw [hr] at P3 H
            exact c_want_f (e := ee) (M := M) (T := T) (N := N) (by omega) hs w3 P3 ⟨rfl, w3, H g3 w3 F3 (PK.fl P3)⟩
          | inr y =>
            rw [hr] at P3 H
            obtain ⟨o3, d3⟩ : okK g3 T N y.1 ∧ dK g g3 b y.2.2.1 (y.2.2.2.1 b) := P3
            have gy := ((hG.2 J rfl).2 0 _ y gt.2 hr).n
            simp only [pB, pW] at H
            refine c_want (M := M) (j := 20) (by omega) hs w3 (tg.fr2 f3) o3 (by omega) (by omega) (by rw [d3.1]; omega) (fun q g4 w4 f4 o4 e45 e42 => ⟨rfl, w4, ?_⟩) (fun q g4 w4 f4 l4 => ⟨rfl, w4, ?_⟩)
            · rw [if_pos (show tkK T N y.1 = 36 from q)] at H
              exact H g4 w4 (F3.trans f4) (PK.ok o4 ((d3.of e5.symm).to e45 e42))
            · rw [if_neg (show ¬ tkK T N y.1 = 36 from q)] at H
              exact H g4 w4 (F3.trans f4) (PK.fl l4)
        · rcases hI with ⟨rfl, i2⟩ | ⟨J, k', rfl, rfl, i2, j0, j1, j2⟩
          · exact H g wg fg (PK.fl og)
          · omega
    · have c2 := yes10 c2
      rw [if_pos c2] at H
      have gt := tk_gt pN (show tkK T N p ≠ 26 by omega)
      rw [o.1.2.2.2.2 c2]
      refine c_app hs hw o eb (by omega) (fun g wg fg og dg => ⟨rfl, wg, ?_⟩)
      exact c_adv (by omega) hs wg (t.fr2 fg) og (fun g2 w2 f2 o2 e5 e2 => ⟨rfl, w2, H g2 w2 (fg.trans f2) (PK.ok o2 (dg.to e5 e2))⟩)
  · have gt := tk_gt pN (show tkK T N p ≠ 26 by omega)
    have n25 : tkK T N p ≠ 25 := fun z => by rw [z] at c1; exact c1 rfl
    rw [if_neg n25, if_pos (show wdO (tkK T N p) ≠ -1 by omega)] at H
    refine c_adv (by omega) hs hw t o (fun g wg fg og e5 e2 => ⟨rfl, wg, ?_⟩)
    refine c_app hs wg og (by rw [e2]; exact eb) (by omega) (fun g2 w2 f2 o2 d2 => ⟨rfl, w2, H g2 w2 (fg.trans f2) (PK.ok o2 (d2.of e5.symm))⟩)
theorem c_sum (hs : am_sc scr) (hT : ∀ k, 0 ≤ T k ∧ T k < 256) (hI : inC scr T N I x k D) (hG : inG N I a) : RcC scr T N k (D + 3) f_Reader_readSum [some (.inr (.inr (((2) : Nat) : Int))), some (.inl (x)), none, none, none, none] (suF T N I) := by
  intro h Q p b s M hw t o eb hb hk hM H
  have hD := hI.1
  have tN := t.1
  have pN := o.1.1
  have ma := c_atom hs hI hG
  -- one term
  have term : ∀ (g : am_H) (q b' s' M' i : Nat) (x2 : Int), wf g → fr [5] RCF h g → okK g T N q → g.2.2.2 2 2 = (b' : Int) → b' + s' ≤ q → k + 2 ≤ s' → 900 + 3 * k ≤ M' + s' → M' ≤ M → (x2 ≠ 0 → M' + 1 ≤ M) → i < 900 → (∀ (g2 : am_H) (y : PX) (x5 : Int), wf g2 → fr [5] RCF h g2 → teF T N I q = .inr y → okK g2 T N y.1 → dK g g2 b' y.2.2.1 (y.2.2.2.1 b') → am_R (am_prog scr) (D + 3) f_Reader_readSum 81 [some (.inr (.inr (((2) : Nat) : Int))), some (.inl (x)), some (.inl (x2)), some (.inl (1)), some (.inl ((i : Int))), some (.inl (x5))] [] g2 Q) → (∀ (g2 : am_H) (ee : Int × Int), wf g2 → fr [5] RCF h g2 → teF T N I q = .inl ee → flK g2 T N M ee → Q none g2) → am_R (am_prog scr) (D + 3) f_Reader_readSum 7 [some (.inr (.inr (((2) : Nat) : Int))), some (.inl (x)), some (.inl (x2)), some (.inl (1)), some (.inl ((i : Int))), none] [] g Q := by
    intro g q b' s' M' i x2 wg fg og e2 hb' hk' hM' hm1 hm2 hi K1 K2
    have tg := t.fr2 fg
    refine w_Reader_readSum_7 hs wg ⟨fun c => by omega, fun _ => ⟨fun c => absurd c (by decide), fun _ => ?_⟩⟩
    refine ma g _ q b' s' M' wg tg og e2 hb' hk' hM' (fun g2 w2 f2 P2 => ⟨rfl, w2, ?_⟩)
    have F2 := fg.trans f2
    unfold teF at K1 K2
    have ex : ∀ (g3 : am_H) (j : Nat), wf g3 → fr [5] RCF g g3 → j ≤ 900 → PK T N M' g g3 b' (pB (atF T N I q) (binL T N (atF T N I) opS 900)) → am_R (am_prog scr) (D + 3) f_Reader_readSum 81 [some (.inr (.inr (((2) : Nat) : Int))), some (.inl (x)), some (.inl (x2)), some (.inl (1)), some (.inl ((i : Int))), some (.inl ((j : Int)))] [] g3 Q := by
      intro g3 j w3 f3 hj P3
      revert P3 K1 K2
      generalize pB (atF T N I q) (binL T N (atF T N I) opS 900) = r
      intro K1 K2 P3
      cases r with
      | inl ee => exact c_sum81_f (i := i) (M := M') (M2 := M) (e := ee) (T := T) (N := N) (by omega) hs w3 (tg.fr2 f3) P3 hi hm1 hm2 (fun g4 w4 f4 l4 => K2 g4 ee w4 ((fg.trans f3).trans f4) rfl l4)
      | inr y => exact K1 g3 y _ w3 (fg.trans f3) rfl P3.1 P3.2
    cases hr : atF T N I q with
    | inl ee =>
      rw [hr] at P2 ex
      refine w_Reader_readSum_27 hs w2 ⟨fun c => absurd (by decide) c, fun _ => c_ok_f (e := ee) (M := M') (T := T) (N := N) hs w2 P2 ⟨_, rfl, w2, fun _ => ?_, fun c => absurd rfl c⟩⟩
      exact ex g2 0 w2 f2 (by omega) (PK.fl P2)
    | inr y =>
      rw [hr] at P2 ex
      obtain ⟨o2, d2⟩ : okK g2 T N y.1 ∧ dK g g2 b' y.2.2.1 (y.2.2.2.1 b') := P2
      have gy := (atF_gd hT hG og.1.1 hr).n
      exact c_loop (Lp := fun j g => am_R (am_prog scr) (D + 3) f_Reader_readSum 27 [some (.inr (.inr (((2) : Nat) : Int))), some (.inl (x)), some (.inl (x2)), some (.inl (1)), some (.inl ((i : Int))), some (.inl (j))] [] g Q) (Ex := fun j g => am_R (am_prog scr) (D + 3) f_Reader_readSum 81 [some (.inr (.inr (((2) : Nat) : Int))), some (.inl (x)), some (.inl (x2)), some (.inl (1)), some (.inl ((i : Int))), some (.inl (j))] [] g Q) (jt := 33) (key := 34) (op := 2) hs (fun k => rfl) (by omega) rfl (by omega) ⟨by omega, rfl⟩ (by omega) (by omega) ma (fun p z hp hz => (atF_gd hT hG hp hz).n) (fun j h hw HH => w_Reader_readSum_27 hs hw HH) hb' hk' hM' 900 y 0 g2 (by omega) gy.2.1 gy.2.2 (by omega) w2 f2 (tg.fr2 f2) o2 d2 ex
  have lp : ∀ (m : Nat) (y : PX) (i : Nat) (x2 x5 : Int) (g : am_H), N < y.1 + m → y.1 ≤ N → p + y.2.2.1 ≤ y.1 → i + 1 ≤ y.1 → wf g → fr [5] RCF h g → okK g T N y.1 → dK h g b y.2.2.1 (y.2.2.2.1 b) → (∀ g, wf g → fr [5] RCF h g → PK T N M h g b (binL T N (teF T N I) opA m y) → Q none g) → am_R (am_prog scr) (D + 3) f_Reader_readSum 90 [some (.inr (.inr (((2) : Nat) : Int))), some (.inl (x)), some (.inl (x2)), some (.inl (1)), some (.inl ((i : Int))), some (.inl (x5))] [] g Q := by
    intro m
    induction m with
    | zero => intro y i x2 x5 g h1 h2; omega
    | succ m ih =>
      intro y i x2 x5 g h1 h2 h3 h4 wg fg og dy H
      simp only [binL] at H
      have tg := t.fr2 fg
      have fin : ∀ (op : Int), (op = 0 ∨ op = 1) → opA (tkK T N y.1) = op → tkK T N y.1 ≠ 26 → am_R (am_prog scr) (D + 2) f_Tokens_advance 0 [some (.inr (.inr (((3) : Nat) : Int))), none] [] g (fun v g8 => v = none ∧ wf g8 ∧ (∀ y9, y9 = am_w ((i : Int) + 1) → (am_R (am_prog scr) (D + 3) f_Reader_readSum 7 [some (.inr (.inr (((2) : Nat) : Int))), some (.inl (x)), some (.inl (-8 - op)), some (.inl (1)), some (.inl (y9)), none] [] g8 Q))) := by
        intro op ho ek k26
        rw [ek, if_neg (by omega)] at H
        have gt := tk_gt h2 k26
        refine c_adv (by omega) hs wg tg og (fun g2 w2 f2 o2 e5 e2 => ⟨rfl, w2, fun y9 h9 => ?_⟩)
        rw [am_w_id (by omega) (by omega)] at h9
        obtain rfl : y9 = ((i + 1 : Nat) : Int) := by omega
        have F2 := fg.trans f2
        refine term g2 (tkE T N y.1) (b + y.2.2.1) (s + 1) (M - 1) (i + 1) (-8 - op) w2 F2 o2 (by rw [e2]; exact dy.1) (by omega) (by omega) (by omega) (by omega) (fun _ => by omega) (by omega) (fun g3 z x5 w3 f3 hr o3 d3 => ?_) (fun g3 ee w3 f3 hr l3 => ?_)
        · rw [hr] at H
          have gz := (teF_gd hT hG gt.2 hr).n
          refine w_Reader_readSum_81 hs w3 ⟨fun c => absurd c (by omega), fun _ => ?_⟩
          refine c_app hs w3 o3 d3.1 (by omega) (fun g4 w4 f4 o4 d4 => ⟨rfl, w4, ?_⟩)
          have dd := dy.bin (fun j _ => by rw [e5]) d3 d4
          exact ih (binX op y z) (i + 1) _ _ g4 (by simp only [binX]; omega) (by simp only [binX]; omega) (by simp only [binX]; omega) (by simp only [binX]; omega) w4 (f3.trans f4) o4 dd H
        · rw [hr] at H
          exact H g3 w3 f3 (PK.fl l3)
      refine w_Reader_readSum_90 hs wg (c_is (j := 34) (by omega) hs wg tg og.1 (by omega) (by omega) ⟨_, rfl, wg, fun c => ?_, fun c => ?_⟩)
      · have n32 : ¬ tkK T N y.1 = 32 := ite10.mp c
        refine c_is (j := 35) (by omega) hs wg tg og.1 (by omega) (by omega) ⟨_, rfl, wg, fun c => ?_, fun c => ?_⟩
        · have n33 : ¬ tkK T N y.1 = 33 := ite10.mp c
          have e1 : opA (tkK T N y.1) = -1 := by unfold opA; rw [if_neg n32, if_neg n33]
          rw [e1, if_pos rfl] at H
          have done : Q none g := H g wg fg (PK.ok og dy)
          refine c_ok hs wg og ⟨_, rfl, wg, fun c => absurd c (by omega), fun _ => ⟨fun _ => ?_, fun c => absurd rfl c⟩⟩
          refine w_Reader_readSum_144 hs wg ⟨fun _ y1 _ => ?_, fun c => absurd rfl c⟩
          exact w_Reader_readSum_7 hs wg ⟨fun _ => done, fun _ => ⟨fun _ => done, fun c => absurd rfl c⟩⟩
        · have q : tkK T N y.1 = 33 := yes10 c
          refine c_ok hs wg og ⟨_, rfl, wg, fun c => absurd c (by omega), fun _ => ⟨fun c => absurd c (by omega), fun _ => ⟨fun c => absurd c (by omega), fun _ => ?_⟩⟩⟩
          exact fin 1 (by omega) (by rw [q]; rfl) (by omega)
      · have q : tkK T N y.1 = 32 := yes10 c
        refine c_ok hs wg og ⟨_, rfl, wg, fun c => absurd c (by omega), fun _ => ⟨fun c => absurd c (by omega), fun _ => ⟨fun c => absurd c (by omega), fun _ => ?_⟩⟩⟩
        exact fin 0 (by omega) (by rw [q]; rfl) (by omega)
  unfold suF at H
  refine w_Reader_readSum_0 hs hw ?_
  refine term h p b s M 0 0 hw fr.rfl o eb hb hk hM (Nat.le_refl _) (fun z => absurd rfl z) (by omega) (fun g2 y x5 w2 f2 hr o2 d2 => ?_) (fun g2 ee w2 f2 hr l2 => ?_)
  · rw [hr] at H
    have gy := (teF_gd hT hG pN hr).n
    refine w_Reader_readSum_81 hs w2 ⟨fun _ => ?_, fun c => absurd rfl c⟩
    exact lp 900 y 0 0 x5 g2 (by omega) gy.2.1 gy.2.2 (by omega) w2 f2 o2 d2 H
  · rw [hr] at H
    exact H g2 w2 f2 (PK.fl l2)
theorem c_comp (hs : am_sc scr) (hT : ∀ k, 0 ≤ T k ∧ T k < 256) (hI : inC scr T N I x k D) (hG : inG N I a) : RcC scr T N k (D + 4) f_Reader_readComparison [some (.inr (.inr (((2) : Nat) : Int))), some (.inl (x)), none] (fun p => pB (suF T N I p) (fun x => if opC (tkK T N x.1) = -1 then pF T N x.1 2 else pB (suF T N I (tkE T N x.1)) (fun y => .inr (binX (opC (tkK T N x.1)) x y)))) := by
  intro h Q p b s M hw t o eb hb hk hM H
  have hD := hI.1
  have tN := t.1
  have pN := o.1.1
  have ms := c_sum hs hT hI hG
  simp only at H
  refine w_Reader_readComparison_0 hs hw (ms h _ p b s M hw t o eb hb hk hM (fun g wg fg P => ⟨rfl, wg, ?_⟩))
  have tg := t.fr2 fg
  cases hr : suF T N I p with
  | inl ee =>
    rw [hr] at P H
    exact c_ok_f (e := ee) (M := M) (T := T) (N := N) hs wg P ⟨_, rfl, wg, fun c => absurd rfl c, fun _ => H g wg fg (PK.fl P)⟩
  | inr y =>
    rw [hr] at P H
    obtain ⟨og, dy⟩ : okK g T N y.1 ∧ dK h g b y.2.2.1 (y.2.2.2.1 b) := P
    have gy := (suF_gd hT hG pN hr).n
    simp only [pB] at H
    have fin : ∀ (op cop : Int), (3 ≤ op ∧ op ≤ 5) → cop = -8 - op → opC (tkK T N y.1) = op → am_R (am_prog scr) (D + 3) f_Tokens_advance 0 [some (.inr (.inr (((3) : Nat) : Int))), none] [] g (fun v g10 => v = none ∧ wf g10 ∧ (am_R (am_prog scr) (D + 3) f_Reader_readSum 0 [some (.inr (.inr (((2) : Nat) : Int))), some (.inl (x)), none, none, none, none] [] g10 (fun v g11 => v = none ∧ wf g11 ∧ (am_R (am_prog scr) (D + 3) f_Reader_append 0 [some (.inr (.inr (((2) : Nat) : Int))), some (.inl (cop))] [] g11 (fun v g12 => v = none ∧ wf g12 ∧ (Q none g12)))))) := by
      intro op cop ho hc ek
      have k26 := (opC_b (tkK T N y.1) (by omega)).2
      rw [ek, if_neg (by omega)] at H
      have gt := tk_gt gy.2.1 k26
      refine c_adv (by omega) hs wg tg og (fun g2 w2 f2 o2 e5 e2 => ⟨rfl, w2, ?_⟩)
      refine ms g2 _ (tkE T N y.1) (b + y.2.2.1) (s + 1) (M - 1) w2 (tg.fr2 f2) o2 (by rw [e2]; exact dy.1) (by omega) (by omega) (by omega) (fun g3 w3 f3 P3 => ⟨rfl, w3, ?_⟩)
      have F3 := (fg.trans f2).trans f3
      cases hr2 : suF T N I (tkE T N y.1) with
      | inl ee =>
        rw [hr2] at P3 H
        exact c_app_f (e := ee) (M := M - 1) (T := T) (N := N) hs w3 P3 (fun g4 w4 f4 l4 => ⟨rfl, w4, H g4 w4 (F3.trans f4) (PK.fl (l4.mono (by omega)))⟩)
      | inr z =>
        rw [hr2] at P3 H
        obtain ⟨o3, d3⟩ : okK g3 T N z.1 ∧ dK g2 g3 (b + y.2.2.1) z.2.2.1 (z.2.2.2.1 (b + y.2.2.1)) := P3
        have gz := (suF_gd hT hG gt.2 hr2).n
        refine c_app hs w3 o3 d3.1 (by omega) (fun g4 w4 f4 o4 d4 => ⟨rfl, w4, ?_⟩)
        rw [hc] at d4
        exact H g4 w4 (F3.trans f4) (PK.ok o4 (dy.bin (fun j _ => by rw [e5]) d3 d4))
    refine c_ok hs wg og ⟨_, rfl, wg, fun _ => ?_, fun c => absurd c (by omega)⟩
    refine c_is (j := 25) (by omega) hs wg tg og.1 (by omega) (by omega) ⟨_, rfl, wg, fun c => ?_, fun c => ?_⟩
    · have n39 : ¬ tkK T N y.1 = 39 := ite10.mp c
      refine c_is (j := 26) (by omega) hs wg tg og.1 (by omega) (by omega) ⟨_, rfl, wg, fun c => ?_, fun c => ?_⟩
      · have n40 : ¬ tkK T N y.1 = 40 := ite10.mp c
        refine c_is (j := 27) (by omega) hs wg tg og.1 (by omega) (by omega) ⟨_, rfl, wg, fun c => ?_, fun c => ?_⟩
        · have n41 : ¬ tkK T N y.1 = 41 := ite10.mp c
          have e1 : opC (tkK T N y.1) = -1 := by unfold opC; rw [if_neg n39, if_neg n40, if_neg n41]
          rw [e1, if_pos rfl] at H
          refine ⟨fun c => absurd rfl c, fun _ => ?_⟩
          exact c_ref (M := M) hs wg tg og (by omega) (by rw [dy.1]; omega) (fun g4 w4 f4 l4 => ⟨rfl, w4, H g4 w4 (fg.trans f4) (PK.fl l4)⟩)
        · have q : tkK T N y.1 = 41 := yes10 c
          exact ⟨fun _ => fin 5 (-13) (by omega) (by omega) (by rw [q]; rfl), fun c => absurd c (by omega)⟩
      · have q : tkK T N y.1 = 40 := yes10 c
        exact ⟨fun _ => fin 4 (-12) (by omega) (by omega) (by rw [q]; rfl), fun c => absurd c (by omega)⟩
    · have q : tkK T N y.1 = 39 := yes10 c
      exact ⟨fun _ => fin 3 (-11) (by omega) (by omega) (by rw [q]; rfl), fun c => absurd c (by omega)⟩
theorem c_unit (hs : am_sc scr) (hT : ∀ k, 0 ≤ T k ∧ T k < 256) (hI : inC scr T N I x k D) (hG : inG N I a) : RcC scr T N k (D + 5) f_Reader_readUnit [some (.inr (.inr (((2) : Nat) : Int))), some (.inl (x))] (unF T N I) := by
  intro h Q p b s M hw t o eb hb hk hM H
  have hD := hI.1
  have tN := t.1
  have pN := o.1.1
  have hz : 0 ≤ h.2.2.2 2 2 ∧ h.2.2.2 2 2 ≤ (M : Int) := by rw [eb]; omega
  have mc := c_comp hs hT hI hG
  obtain ⟨_, hI⟩ := hI
  unfold unF at H
  refine w_Reader_readUnit_0 hs hw (c_ok hs hw o ⟨_, rfl, hw, fun _ => ?_, fun c => absurd c (by omega)⟩)
  refine c_is (j := 22) (by omega) hs hw t o.1 (by omega) (by omega) ⟨_, rfl, hw, fun c => ?_, fun c => ?_⟩
  · have c1 : ¬ tkK T N p = 23 := ite10.mp c
    rw [if_neg c1] at H
    refine c_is (j := 23) (by omega) hs hw t o.1 (by omega) (by omega) ⟨_, rfl, hw, fun c => ?_, fun c => ?_⟩
    · have c2 : ¬ tkK T N p = 37 := ite10.mp c
      rw [if_neg c2] at H
      exact mc h _ p b s M hw t o eb hb hk hM (fun g wg fg P => ⟨rfl, wg, H g wg fg P⟩)
    · have c2 : tkK T N p = 37 := yes10 c
      rw [if_pos c2] at H
      have gt := tk_gt pN (show tkK T N p ≠ 26 by omega)
      refine c_go (by omega) hs hw t o hz (fun cx g wg fg og e5 e2 => ⟨_, rfl, wg, fun c => absurd c (by omega), fun _ => ?_⟩) (fun cx g wg fg og => ⟨_, rfl, wg, fun _ => ?_, fun c => absurd rfl c⟩)
      · rcases hI with ⟨i1, i2⟩ | ⟨J, k', rfl, rfl, i2, j0, j1, j2⟩
        · omega
        simp only at H
        rw [am_w_id (by omega) (by omega)]
        have tg := t.fr2 fg
        refine am_R.to (d := D) (by omega) (j2 g _ (tkE T N p) b (s + 1) M wg tg og (by rw [e2]; exact eb) (by omega) (by omega) (by omega) (fun g3 w3 f3 P3 => ⟨rfl, w3, ?_⟩))
        have F3 := fg.trans f3
        cases hr : J 2 (tkE T N p) with
        | inl ee =>
          rw [hr] at P3 H
          exact c_want_f (e := ee) (M := M) (T := T) (N := N) (by omega) hs w3 P3 ⟨rfl, w3, H g3 w3 F3 (PK.fl P3)⟩
        | inr y =>
          rw [hr] at P3 H
          obtain ⟨o3, d3⟩ : okK g3 T N y.1 ∧ dK g g3 b y.2.2.1 (y.2.2.2.1 b) := P3
          have gy := ((hG.2 J rfl).2 2 _ y gt.2 hr).n
          simp only [pB, pW] at H
          refine c_want (M := M) (j := 24) (by omega) hs w3 (tg.fr2 f3) o3 (by omega) (by omega) (by rw [d3.1]; omega) (fun q g4 w4 f4 o4 e45 e42 => ⟨rfl, w4, ?_⟩) (fun q g4 w4 f4 l4 => ⟨rfl, w4, ?_⟩)
          · rw [if_pos (show tkK T N y.1 = 38 from q)] at H
            exact H g4 w4 (F3.trans f4) (PK.ok o4 ((d3.of e5.symm).to e45 e42))
          · rw [if_neg (show ¬ tkK T N y.1 = 38 from q)] at H
            exact H g4 w4 (F3.trans f4) (PK.fl l4)
      · rcases hI with ⟨rfl, i2⟩ | ⟨J, k', rfl, rfl, i2, j0, j1, j2⟩
        · exact H g wg fg (PK.fl og)
        · omega
  · have c1 : tkK T N p = 23 := yes10 c
    rw [if_pos c1] at H
    have gt := tk_gt pN (show tkK T N p ≠ 26 by omega)
    refine c_go (by omega) hs hw t o hz (fun cx g wg fg og e5 e2 => ⟨_, rfl, wg, fun c => absurd c (by omega), fun _ => ?_⟩) (fun cx g wg fg og => ⟨_, rfl, wg, fun _ => ?_, fun c => absurd rfl c⟩)
    · rcases hI with ⟨i1, i2⟩ | ⟨J, k', rfl, rfl, i2, j0, j1, j2⟩
      · omega
      simp only at H
      rw [am_w_id (by omega) (by omega)]
      have tg := t.fr2 fg
      refine am_R.to (d := D) (by omega) (j1 g _ (tkE T N p) b (s + 1) (M - 1) wg tg og (by rw [e2]; exact eb) (by omega) (by omega) (by omega) (fun g3 w3 f3 P3 => ⟨rfl, w3, ?_⟩))
      have F3 := fg.trans f3
      cases hr : J 1 (tkE T N p) with
      | inl ee =>
        rw [hr] at P3 H
        exact c_app_f (e := ee) (M := M - 1) (T := T) (N := N) hs w3 P3 (fun g4 w4 f4 l4 => ⟨rfl, w4, H g4 w4 (F3.trans f4) (PK.fl (l4.mono (by omega)))⟩)
      | inr y =>
        rw [hr] at P3 H
        obtain ⟨o3, d3⟩ : okK g3 T N y.1 ∧ dK g g3 b y.2.2.1 (y.2.2.2.1 b) := P3
        have gy := ((hG.2 J rfl).2 1 _ y gt.2 hr).n
        simp only [pB] at H
        refine c_app hs w3 o3 d3.1 (by omega) (fun g4 w4 f4 o4 d4 => ⟨rfl, w4, ?_⟩)
        refine H g4 w4 (F3.trans f4) (PK.ok o4 ?_)
        simp only [notX]
        refine ⟨by rw [d4.1]; omega, fun j j1' j2' => ?_, fun j hj => by rw [d4.2.2 j (by omega), d3.2.2 j hj, e5]⟩
        show g4.2.2.2 5 j = if j < b + y.2.2.1 then _ else _
        by_cases q : j < b + y.2.2.1
        · rw [if_pos q, d4.2.2 j q, d3.2.1 j j1' q]
        · rw [if_neg q, d4.2.1 j (by omega) (by omega)]
    · rcases hI with ⟨rfl, i2⟩ | ⟨J, k', rfl, rfl, i2, j0, j1, j2⟩
      · exact H g wg fg (PK.fl og)
      · omega
theorem c_both (hs : am_sc scr) (hT : ∀ k, 0 ≤ T k ∧ T k < 256) (hI : inC scr T N I x k D) (hG : inG N I a) : RcC scr T N k (D + 6) f_Reader_readBoth [some (.inr (.inr (((2) : Nat) : Int))), some (.inl (x)), none] (boF T N I) := by
  intro h Q p b s M hw t o eb hb hk hM H
  have hD := hI.1
  have tN := t.1
  have mu := c_unit hs hT hI hG
  refine w_Reader_readBoth_0 hs hw (mu h _ p b s M hw t o eb hb hk hM (fun g wg fg P => ⟨rfl, wg, ?_⟩))
  unfold boF at H
  cases hr : unF T N I p with
  | inl ee =>
    rw [hr] at P H
    exact w_Reader_readBoth_7 hs wg ⟨fun _ => H g wg fg (PK.fl P), fun _ => c_ok_f (e := ee) (M := M) (T := T) (N := N) hs wg P ⟨_, rfl, wg, fun _ => H g wg fg (PK.fl P), fun c => absurd rfl c⟩⟩
  | inr y =>
    rw [hr] at P H
    obtain ⟨o3, d3⟩ : okK g T N y.1 ∧ dK h g b y.2.2.1 (y.2.2.2.1 b) := P
    have gy := (unF_gd hT hG o.1.1 hr).n
    exact c_loop (Lp := fun j g => am_R (am_prog scr) (D + 6) f_Reader_readBoth 7 [some (.inr (.inr (((2) : Nat) : Int))), some (.inl (x)), some (.inl (j))] [] g Q) (Ex := fun j g => Q none g) (jt := 28) (key := 21) (op := 7) hs (fun k => rfl) (by omega) rfl (by omega) ⟨by omega, rfl⟩ (by omega) (by omega) mu (fun p z hp hz => (unF_gd hT hG hp hz).n) (fun j h hw HH => w_Reader_readBoth_7 hs hw HH) hb hk hM 900 y 0 g (by omega) gy.2.1 gy.2.2 (by omega) wg fg (t.fr2 fg) o3 d3 (fun g _ wg fg _ P => H g wg fg P)
theorem c_truth (hs : am_sc scr) (hT : ∀ k, 0 ≤ T k ∧ T k < 256) (hI : inC scr T N I x k D) (hG : inG N I a) : RcC scr T N k (D + 7) f_Reader_readTruth [some (.inr (.inr (((2) : Nat) : Int))), some (.inl (x)), none] (trF T N I) := by
  intro h Q p b s M hw t o eb hb hk hM H
  have hD := hI.1
  have tN := t.1
  have mu := c_both hs hT hI hG
  refine w_Reader_readTruth_0 hs hw (mu h _ p b s M hw t o eb hb hk hM (fun g wg fg P => ⟨rfl, wg, ?_⟩))
  unfold trF at H
  cases hr : boF T N I p with
  | inl ee =>
    rw [hr] at P H
    exact w_Reader_readTruth_7 hs wg ⟨fun _ => H g wg fg (PK.fl P), fun _ => c_ok_f (e := ee) (M := M) (T := T) (N := N) hs wg P ⟨_, rfl, wg, fun _ => H g wg fg (PK.fl P), fun c => absurd rfl c⟩⟩
  | inr y =>
    rw [hr] at P H
    obtain ⟨o3, d3⟩ : okK g T N y.1 ∧ dK h g b y.2.2.1 (y.2.2.2.1 b) := P
    have gy := (boF_gd hT hG o.1.1 hr).n
    exact c_loop (Lp := fun j g => am_R (am_prog scr) (D + 7) f_Reader_readTruth 7 [some (.inr (.inr (((2) : Nat) : Int))), some (.inl (x)), some (.inl (j))] [] g Q) (Ex := fun j g => Q none g) (jt := 29) (key := 22) (op := 8) hs (fun k => rfl) (by omega) rfl (by omega) ⟨by omega, rfl⟩ (by omega) (by omega) mu (fun p z hp hz => (boF_gd hT hG hp hz).n) (fun j h hw HH => w_Reader_readTruth_7 hs hw HH) hb hk hM 900 y 0 g (by omega) gy.2.1 gy.2.2 (by omega) wg fg (t.fr2 fg) o3 d3 (fun g _ wg fg _ P => H g wg fg P)
theorem RcC.to {D E f k : Nat} {lv : am_Lv} {F : Nat → PR} (c : RcC scr T N k D f lv F) (hd : D ≤ E) : RcC scr T N k E f lv F := fun h Q p b s M a1 a2 a3 a4 a5 a6 a7 a8 => am_R.to hd (c h Q p b s M a1 a2 a3 a4 a5 a6 a7 a8)
theorem c_lev (hs : am_sc scr) (hT : ∀ k, 0 ≤ T k ∧ T k < 256) : ∀ k, k ≤ 6 → inC scr T N (lvJ T N k) (6 - (k : Int)) k (12 + 7 * k) := by
  intro k
  induction k with
  | zero => intro _; exact ⟨by omega, Or.inl ⟨rfl, by omega⟩⟩
  | succ k ih =>
    intro hk
    have i := ih (by omega)
    have g := lv_gd (N := N) hT k
    have e : (6 - ((k + 1 : Nat) : Int)) + 1 = 6 - (k : Int) := by omega
    refine ⟨by omega, Or.inr ⟨lvP T N k, k, rfl, rfl, by omega, ?_, ?_, ?_⟩⟩
    · rw [e, lv_md]
      exact (c_sum hs hT i g).to (by omega)
    · rw [e, lv_md]
      exact (c_unit hs hT i g).to (by omega)
    · rw [e, lv_md]
      exact (c_truth hs hT i g).to (by omega)
theorem c_law (hs : am_sc scr) (hT : ∀ k, 0 ≤ T k ∧ T k < 256) : RcC scr T N 6 57 f_Reader_readSum [some (.inr (.inr (((2) : Nat) : Int))), some (.inl (0)), none, none, none, none] (lawF T N) := c_sum hs hT (c_lev hs hT 6 (by omega)) (lv_gd hT 6)
end RF
