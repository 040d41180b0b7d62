/-! reading: the class, loops and choices -/
theorem dK.bin {h g k l : am_H} {b : Nat} {x y : PX} {op : Int} (dx : dK h g b x.2.2.1 (x.2.2.2.1 b)) (e1 : ∀ j, j < b + x.2.2.1 → k.2.2.2 5 j = g.2.2.2 5 j) (dy : dK k l (b + x.2.2.1) y.2.2.1 (y.2.2.2.1 (b + x.2.2.1))) {m : am_H} (dz : dK l m (b + x.2.2.1 + y.2.2.1) 1 (fun _ => -8 - op)) : dK h m b (binX op x y).2.2.1 ((binX op x y).2.2.2.1 b) := by
  obtain ⟨a1, a2, a3⟩ := dx
  obtain ⟨b1, b2, b3⟩ := dy
  obtain ⟨c1, c2, c3⟩ := dz
  simp only [binX]
  refine ⟨by rw [c1]; omega, fun j j1 j2 => ?_, fun j hj => by rw [c3 j (by omega), b3 j (by omega), e1 j (by omega), a3 j hj]⟩
  show m.2.2.2 5 j = if j < b + x.2.2.1 then _ else _
  by_cases q1 : j < b + x.2.2.1
  · rw [if_pos q1, c3 j (by omega), b3 j (by omega), e1 j q1, a2 j j1 q1]
  · rw [if_neg q1]
    by_cases q2 : j < b + x.2.2.1 + y.2.2.1
    · rw [if_pos q2, c3 j (by omega), b2 j (by omega) q2]
    · rw [if_neg q2, c2 j (by omega) (by omega)]
theorem dK.to {h g k : am_H} {b n : Nat} {C : Nat → Int} (d : dK h g b n C) (e5 : k.2.2.2 5 = g.2.2.2 5) (e2 : k.2.2.2 2 2 = g.2.2.2 2 2) : dK h k b n C := ⟨by rw [e2]; exact d.1, fun j j1 j2 => by rw [e5]; exact d.2.1 j j1 j2, fun j hj => by rw [e5]; exact d.2.2 j hj⟩
theorem dK.of {h g k : am_H} {b n : Nat} {C : Nat → Int} (d : dK h g b n C) (e5 : k.2.2.2 5 = h.2.2.2 5) : dK k g b n C := ⟨d.1, d.2.1, fun j hj => by rw [e5]; exact d.2.2 j hj⟩
theorem gdX.n {N nd p : Nat} {tv : Bool} {x : PX} (g : gdX N nd tv p x) : p < x.1 ∧ x.1 ≤ N ∧ p + x.2.2.1 ≤ x.1 := ⟨g.1, g.2.1, g.2.2.1⟩
section RD
variable {scr : Nat × (Nat → Int)} {d : Nat} {h : am_H} {Q : Option am_V → am_H → Prop} {T : Nat → Int} {N M p b s D k : Nat} {e : Int × Int}
theorem c_loop {fA : Nat} {lA : am_Lv} {key op cop a1 : Int} {jt : Nat} {opf : Int → Int} {A : Nat → PR} {Lp Ex : Int → am_H → Prop} (hs : am_sc scr) (hop : ∀ k, opf k = if k = key then op else -1) (ho : op ≠ -1) (hc : cop = -8 - op) (hkey : key ≠ 26) (hj : (1 ≤ jt ∧ jt < 37) ∧ kyT jt = key) (ha : a1 = -2 - (jt : Int)) (hD : 5 ≤ D) (hA : RcC scr T N k D fA lA A) (gA : ∀ p z, p ≤ N → A p = .inr z → p < z.1 ∧ z.1 ≤ N ∧ p + z.2.2.1 ≤ z.1) (W : ∀ (j : Int) (h : am_H), wf h → ((¬ (j < 900) → Ex j h) ∧ (j < 900 → (am_R (am_prog scr) D f_Tokens_isFaultless 0 [some (.inr (.inr (((3) : Nat) : Int)))] [] h (fun v g1 => ∃ r2, v = some (.inl r2) ∧ wf g1 ∧ ((r2 = 0 → Ex j g1) ∧ (¬ (r2 = 0) → (am_R (am_prog scr) D f_Tokens_is 0 [some (.inr (.inr (((3) : Nat) : Int))), some (.inr (.inr a1)), none] [] g1 (fun v g3 => ∃ r4, v = some (.inl r4) ∧ wf g3 ∧ ((r4 = 0 → Ex j g3) ∧ (¬ (r4 = 0) → (am_R (am_prog scr) D f_Tokens_advance 0 [some (.inr (.inr (((3) : Nat) : Int))), none] [] g3 (fun v g5 => v = none ∧ wf g5 ∧ (am_R (am_prog scr) D fA 0 lA [] g5 (fun v g6 => v = none ∧ wf g6 ∧ (am_R (am_prog scr) D f_Reader_append 0 [some (.inr (.inr (((2) : Nat) : Int))), some (.inl (cop))] [] g6 (fun v g7 => v = none ∧ wf g7 ∧ (∀ y8, y8 = am_w (j + 1) → Lp y8 g7))))))))))))))))) → Lp j h) (hb : b + s ≤ p) (hk : k + 2 ≤ s) (hM : 900 + 3 * k ≤ M + s) : ∀ (m : Nat) (x : PX) (j : Nat) (g : am_H), N < x.1 + m → x.1 ≤ N → p + x.2.2.1 ≤ x.1 → j + 1 ≤ x.1 → wf g → fr [5] RCF h g → teC g T N → okK g T N x.1 → dK h g b x.2.2.1 (x.2.2.2.1 b) → (∀ (g : am_H) (j : Nat), wf g → fr [5] RCF h g → j ≤ 900 → PK T N M h g b (binL T N A opf m x) → Ex (j : Int) g) → Lp (j : Int) g := by
  intro m
  induction m with
  | zero => intro x j g h1 h2; omega
  | succ m ih =>
    intro x j g h1 h2 h3 h4 wg fg t o dx H
    simp only [binL] at H
    rw [hop] at H
    have tN := t.1
    refine W j g wg ⟨fun c => ?_, fun _ => c_ok hs wg o ⟨_, rfl, wg, fun c => absurd c (by omega), fun _ => ?_⟩⟩
    · exfalso; omega
    refine c_is hD hs wg t o.1 hj.1 ha ⟨_, rfl, wg, fun c => ?_, fun c => ?_⟩
    · have q := ite10.mp c
      rw [hj.2] at q
      rw [if_neg q, if_pos rfl] at H
      exact H g j wg fg (by omega) (PK.ok o dx)
    · have q : tkK T N x.1 = key := by
        rw [hj.2] at c
        exact Decidable.not_not.mp (fun z => c (ite10.mpr z))
      rw [if_pos q, if_neg ho] at H
      have gt := tk_gt h2 (show tkK T N x.1 ≠ 26 by omega)
      refine c_adv hD hs wg t o (fun g2 w2 f2 o2 e5 e2 => ⟨rfl, w2, ?_⟩)
      have n2 : g2.2.2.2 2 2 = ((b + x.2.2.1 : Nat) : Int) := by rw [e2]; exact dx.1
      refine hA g2 _ (tkE T N x.1) (b + x.2.2.1) (s + 1) (M - 1) w2 (t.fr2 f2) o2 n2 (by omega) (by omega) (by omega) (fun g3 w3 f3 P3 => ⟨rfl, w3, ?_⟩)
      have F3 := (fg.trans f2).trans f3
      cases hr : A (tkE T N x.1) with
      | inl ee =>
        rw [hr] at P3 H
        have fl : flK g3 T N (M - 1) ee := P3
        refine c_app_f hs w3 fl (fun g4 w4 f4 l4 => ⟨rfl, w4, fun y8 h8 => ?_⟩)
        have l4 : flK g4 T N M ee := l4.mono (by omega)
        rw [am_w_id (by omega) (by omega)] at h8
        obtain rfl : y8 = ((j + 1 : Nat) : Int) := by omega
        refine W _ g4 w4 ⟨fun _ => H g4 (j + 1) w4 (F3.trans f4) (by omega) (PK.fl l4), fun _ => c_ok_f hs w4 l4 ⟨_, rfl, w4, fun _ => H g4 (j + 1) w4 (F3.trans f4) (by omega) (PK.fl l4), fun c => absurd rfl c⟩⟩
      | inr y =>
        rw [hr] at P3 H
        obtain ⟨o3, d3⟩ : okK g3 T N y.1 ∧ dK g2 g3 (b + x.2.2.1) y.2.2.1 (y.2.2.2.1 (b + x.2.2.1)) := P3
        have by_ := gA _ y gt.2 hr
        refine c_app hs w3 o3 d3.1 (by omega) (fun g4 w4 f4 o4 d4 => ⟨rfl, w4, fun y8 h8 => ?_⟩)
        rw [am_w_id (by omega) (by omega)] at h8
        obtain rfl : y8 = ((j + 1 : Nat) : Int) := by omega
        rw [hc] at d4
        have dd := dx.bin (fun j _ => by rw [e5]) d3 d4
        exact ih (binX op x y) (j + 1) g4 (by simp only [binX]; omega) (by simp only [binX]; omega) (by simp only [binX]; omega) (by simp only [binX]; omega) w4 (F3.trans f4) (((t.fr2 f2).fr2 f3).fr2 f4) o4 dd H
end RD
section CH
variable (scr : Nat × (Nat → Int)) (D : Nat) (Q : Option am_V → am_H → Prop) (x : Int)
def chE (y9 : Int) (h : am_H) : Prop := am_R (am_prog scr) D f_Tokens_want 0 [some (.inr (.inr (((3) : Nat) : Int))), some (.inr (.inr (-34)))] [] h (fun v g13 => v = none ∧ wf g13 ∧ (am_R (am_prog scr) D f_Reader_aim 0 [some (.inr (.inr (((2) : Nat) : Int))), some (.inl (y9))] [] g13 (fun v g14 => v = none ∧ wf g14 ∧ (Q none g14))))
def chD (y4 : Int) (h : am_H) : Prop := am_R (am_prog scr) D f_Reader_append 0 [some (.inr (.inr (((2) : Nat) : Int))), some (.inl ((-17)))] [] h (fun v g8 => v = none ∧ wf g8 ∧ (∀ y9, y9 = g8.2.2.2 2 2 → (am_R (am_prog scr) D f_Reader_append 0 [some (.inr (.inr (((2) : Nat) : Int))), some (.inl (0))] [] g8 (fun v g10 => v = none ∧ wf g10 ∧ (am_R (am_prog scr) D f_Reader_aim 0 [some (.inr (.inr (((2) : Nat) : Int))), some (.inl (y4))] [] g10 (fun v g11 => v = none ∧ wf g11 ∧ (am_R (am_prog scr) D f_Reader_readSum 0 [some (.inr (.inr (((2) : Nat) : Int))), some (.inl (x)), none, none, none, none] [] g11 (fun v g12 => v = none ∧ wf g12 ∧ chE scr D Q y9 g12))))))))
def chC (y4 : Int) (h : am_H) : Prop := am_R (am_prog scr) D f_Tokens_want 0 [some (.inr (.inr (((3) : Nat) : Int))), some (.inr (.inr (-33)))] [] h (fun v g7 => v = none ∧ wf g7 ∧ chD scr D Q x y4 g7)
def chB (h : am_H) : Prop := am_R (am_prog scr) D f_Reader_append 0 [some (.inr (.inr (((2) : Nat) : Int))), some (.inl ((-18)))] [] h (fun v g3 => v = none ∧ wf g3 ∧ (∀ y4, y4 = g3.2.2.2 2 2 → (am_R (am_prog scr) D f_Reader_append 0 [some (.inr (.inr (((2) : Nat) : Int))), some (.inl (0))] [] g3 (fun v g5 => v = none ∧ wf g5 ∧ (am_R (am_prog scr) D f_Reader_readSum 0 [some (.inr (.inr (((2) : Nat) : Int))), some (.inl (x)), none, none, none, none] [] g5 (fun v g6 => v = none ∧ wf g6 ∧ chC scr D Q x y4 g6))))))
def chAA (h : am_H) : Prop := am_R (am_prog scr) D f_Tokens_want 0 [some (.inr (.inr (((3) : Nat) : Int))), some (.inr (.inr (-32)))] [] h (fun v g2 => v = none ∧ wf g2 ∧ chB scr D Q x g2)
end CH
section RE
variable {scr : Nat × (Nat → Int)} {d : Nat} {h : am_H} {Q : Option am_V → am_H → Prop} {T : Nat → Int} {N M p b s D k : Nat} {e : Int × Int} {x : Int}
theorem w_choice (hs : am_sc scr) (hw : wf h) (H : am_R (am_prog scr) D f_Reader_readTruth 0 [some (.inr (.inr (((2) : Nat) : Int))), some (.inl (x)), none] [] h (fun v g1 => v = none ∧ wf g1 ∧ chAA scr D Q x g1)) : am_R (am_prog scr) (D + 1) f_Reader_readChoice 0 [some (.inr (.inr (((2) : Nat) : Int))), some (.inl (x)), none, none] [] h Q := w_Reader_readChoice_0 hs hw H
theorem chE_f {y9 : Int} (hD : 6 ≤ D) (hs : am_sc scr) (hw : wf h) (t : teC h T N) (o : flK h T N M e) (hy : 0 ≤ y9) (H : ∀ g, wf g → fr [5] RCF h g → flK g T N M e → Q none g) : chE scr D Q y9 h := by
  unfold chE
  exact c_want_f (e := e) (T := T) (N := N) hD hs hw o ⟨rfl, hw, c_aim_f hs hw o hy (fun g wg fg og => ⟨rfl, wg, H g wg fg og⟩)⟩
theorem chD_f {y4 : Int} (hD : 6 ≤ D) (hs : am_sc scr) (hw : wf h) (t : teC h T N) (o : flK h T N M e) (hy : 0 ≤ y4) (H : ∀ g, wf g → fr [5] RCF h g → flK g T N (M + 2) e → Q none g) : chD scr D Q x y4 h := by
  unfold chD
  refine c_app_f hs hw o (fun g wg fg og => ⟨rfl, wg, fun y9 h9 => ?_⟩)
  refine c_app_f hs wg og (fun g2 w2 f2 o2 => ⟨rfl, w2, ?_⟩)
  refine c_aim_f hs w2 o2 hy (fun g3 w3 f3 o3 => ⟨rfl, w3, ?_⟩)
  have F3 := (fg.trans f2).trans f3
  refine c_sum_f hD hs w3 (t.fr2 F3) o3 (fun g4 w4 f4 o4 => ⟨rfl, w4, ?_⟩)
  exact chE_f hD hs w4 (t.fr2 (F3.trans f4)) o4 (by rw [h9]; exact og.2.2.2.2.1) (fun g5 w5 f5 o5 => H g5 w5 ((F3.trans f4).trans f5) o5)
theorem chC_f {y4 : Int} (hD : 6 ≤ D) (hs : am_sc scr) (hw : wf h) (t : teC h T N) (o : flK h T N M e) (hy : 0 ≤ y4) (H : ∀ g, wf g → fr [5] RCF h g → flK g T N (M + 2) e → Q none g) : chC scr D Q x y4 h := by
  unfold chC
  exact c_want_f (e := e) (T := T) (N := N) hD hs hw o ⟨rfl, hw, chD_f hD hs hw t o hy H⟩
theorem chB_f (hD : 6 ≤ D) (hs : am_sc scr) (hw : wf h) (t : teC h T N) (o : flK h T N M e) (H : ∀ g, wf g → fr [5] RCF h g → flK g T N (M + 4) e → Q none g) : chB scr D Q x h := by
  unfold chB
  refine c_app_f hs hw o (fun g wg fg og => ⟨rfl, wg, fun y4 h4 => ?_⟩)
  refine c_app_f hs wg og (fun g2 w2 f2 o2 => ⟨rfl, w2, ?_⟩)
  have F2 := fg.trans f2
  refine c_sum_f hD hs w2 (t.fr2 F2) o2 (fun g4 w4 f4 o4 => ⟨rfl, w4, ?_⟩)
  exact chC_f hD hs w4 (t.fr2 (F2.trans f4)) o4 (by rw [h4]; exact og.2.2.2.2.1) (fun g5 w5 f5 o5 => H g5 w5 ((F2.trans f4).trans f5) o5)
theorem chAA_f (hD : 6 ≤ D) (hs : am_sc scr) (hw : wf h) (t : teC h T N) (o : flK h T N M e) (H : ∀ g, wf g → fr [5] RCF h g → flK g T N (M + 4) e → Q none g) : chAA scr D Q x h := by
  unfold chAA
  exact c_want_f (e := e) (T := T) (N := N) hD hs hw o ⟨rfl, hw, chB_f hD hs hw t o H⟩
/-- a choice, behind its if -/
theorem c_choice {J : Nat → Nat → PR} {a : Nat} (hD : 6 ≤ D) (hs : am_sc scr) (hG : inG N (some J) a) (j0 : RcC scr T N k D f_Reader_readSum [some (.inr (.inr (((2) : Nat) : Int))), some (.inl (x)), none, none, none, none] (J 0)) (j2 : RcC scr T N k D f_Reader_readTruth [some (.inr (.inr (((2) : Nat) : Int))), some (.inl (x)), none] (J 2)) (hw : wf h) (t : teC h T N) (o : okK h T N p) (eb : h.2.2.2 2 2 = (b : Int)) (hb : b + s ≤ p) (hk : k + 4 ≤ s) (hM : 900 + 3 * k + 4 ≤ M + s) (H : ∀ g, wf g → fr [5] RCF h g → PK T N M h g b (pB (J 2 p) (fun t => pB (pW T N t 14) (fun t2 => pB (J 0 t2.1) (fun x => pB (pW T N x 15) (fun x2 => pB (J 0 x2.1) (fun y => pB (pW T N y 16) (fun y2 => .inr (ifX y2.1 t x y)))))))) → Q none g) : am_R (am_prog scr) (D + 1) f_Reader_readChoice 0 [some (.inr (.inr (((2) : Nat) : Int))), some (.inl (x)), none, none] [] h Q := by
  have tN := t.1
  have hGJ := (hG.2 J rfl).2
  have pN := o.1.1
  refine w_choice hs hw (j2 h _ p b s (M - 4) hw t o eb (by omega) (by omega) (by omega) (fun g1 w1 f1 P1 => ⟨rfl, w1, ?_⟩))
  have t1 := t.fr2 f1
  cases hr : J 2 p with
  | inl ee =>
    rw [hr] at P1 H
    exact chAA_f (M := M - 4) (e := ee) hD hs w1 t1 P1 (fun g w f o => H g w (f1.trans f) (PK.fl (o.mono (by omega))))
  | inr u =>
    rw [hr] at P1 H
    obtain ⟨o1, d1⟩ : okK g1 T N u.1 ∧ dK h g1 b u.2.2.1 (u.2.2.2.1 b) := P1
    have gu := (hGJ 2 _ u pN hr).n
    simp only [pB, pW] at H
    unfold chAA
    refine c_want (M := M - 4) (j := 30) hD hs w1 t1 o1 (by omega) (by omega) (by rw [d1.1]; omega) (fun q g2 w2 f2 o2 e25 e22 => ⟨rfl, w2, ?_⟩) (fun q g2 w2 f2 o2 => ⟨rfl, w2, ?_⟩)
    · have q14 : tkK T N u.1 = 14 := q
      rw [if_pos q14] at H
      simp only at H
      have gt := tk_gt gu.2.1 (show tkK T N u.1 ≠ 26 by omega)
      have F2 := f1.trans f2
      have n2 : g2.2.2.2 2 2 = ((b + u.2.2.1 : Nat) : Int) := by rw [e22]; exact d1.1
      unfold chB
      refine c_app hs w2 o2 n2 (by omega) (fun g3 w3 f3 o3 d3 => ⟨rfl, w3, fun y4 h4 => ?_⟩)
      rw [d3.1] at h4
      subst h4
      refine c_app hs w3 o3 d3.1 (by omega) (fun g5 w5 f5 o5 d5 => ⟨rfl, w5, ?_⟩)
      have F5 := (F2.trans f3).trans f5
      have t5 := t.fr2 F5
      refine j0 g5 _ (tkE T N u.1) (b + u.2.2.1 + 1 + 1) (s - 1) (M - 2) w5 t5 o5 d5.1 (by omega) (by omega) (by omega) (fun g6 w6 f6 P6 => ⟨rfl, w6, ?_⟩)
      have F6 := F5.trans f6
      have t6 := t.fr2 F6
      cases hr2 : J 0 (tkE T N u.1) with
      | inl ee =>
        rw [hr2] at P6 H
        exact chC_f (M := M - 2) (e := ee) hD hs w6 t6 P6 (by omega) (fun g w f o => H g w (F6.trans f) (PK.fl (o.mono (by omega))))
      | inr v =>
        rw [hr2] at P6 H
        obtain ⟨o6, d6⟩ : okK g6 T N v.1 ∧ dK g5 g6 (b + u.2.2.1 + 1 + 1) v.2.2.1 (v.2.2.2.1 (b + u.2.2.1 + 1 + 1)) := P6
        have gv := (hGJ 0 _ v gt.2 hr2).n
        simp only at H
        unfold chC
        refine c_want (M := M - 2) (j := 31) hD hs w6 t6 o6 (by omega) (by omega) (by rw [d6.1]; omega) (fun q g7 w7 f7 o7 e75 e72 => ⟨rfl, w7, ?_⟩) (fun q g7 w7 f7 o7 => ⟨rfl, w7, ?_⟩)
        · have q15 : tkK T N v.1 = 15 := q
          rw [if_pos q15] at H
          simp only at H
          have gt2 := tk_gt gv.2.1 (show tkK T N v.1 ≠ 26 by omega)
          have F7 := F6.trans f7
          have n7 : g7.2.2.2 2 2 = ((b + u.2.2.1 + 1 + 1 + v.2.2.1 : Nat) : Int) := by rw [e72]; exact d6.1
          unfold chD
          refine c_app hs w7 o7 n7 (by omega) (fun g8 w8 f8 o8 d8 => ⟨rfl, w8, fun y9 h9 => ?_⟩)
          rw [d8.1] at h9
          subst h9
          refine c_app hs w8 o8 d8.1 (by omega) (fun g10 w10 f10 o10 d10 => ⟨rfl, w10, ?_⟩)
          refine c_aim hs w10 o10 (by omega) (fun g11 w11 f11 o11 e112 e115 => ⟨rfl, w11, ?_⟩)
          have F11 := ((F7.trans f8).trans f10).trans f11
          have t11 := t.fr2 F11
          have n11 : g11.2.2.2 2 2 = ((b + u.2.2.1 + 1 + 1 + v.2.2.1 + 1 + 1 : Nat) : Int) := by rw [e112]; exact d10.1
          refine j0 g11 _ (tkE T N v.1) (b + u.2.2.1 + 1 + 1 + v.2.2.1 + 1 + 1) (s - 2) M w11 t11 o11 n11 (by omega) (by omega) (by omega) (fun g12 w12 f12 P12 => ⟨rfl, w12, ?_⟩)
          have F12 := F11.trans f12
          have t12 := t.fr2 F12
          cases hr3 : J 0 (tkE T N v.1) with
          | inl ee =>
            rw [hr3] at P12 H
            exact chE_f (M := M) (e := ee) hD hs w12 t12 P12 (by omega) (fun g w f o => H g w (F12.trans f) (PK.fl o))
          | inr y =>
            rw [hr3] at P12 H
            obtain ⟨o12, d12⟩ : okK g12 T N y.1 ∧ dK g11 g12 (b + u.2.2.1 + 1 + 1 + v.2.2.1 + 1 + 1) y.2.2.1 (y.2.2.2.1 (b + u.2.2.1 + 1 + 1 + v.2.2.1 + 1 + 1)) := P12
            have gy := (hGJ 0 _ y gt2.2 hr3).n
            simp only at H
            unfold chE
            refine c_want (M := M) (j := 32) hD hs w12 t12 o12 (by omega) (by omega) (by rw [d12.1]; omega) (fun q g13 w13 f13 o13 e135 e132 => ⟨rfl, w13, ?_⟩) (fun q g13 w13 f13 o13 => ⟨rfl, w13, ?_⟩)
            · have q16 : tkK T N y.1 = 16 := q
              rw [if_pos q16] at H
              simp only at H
              refine c_aim hs w13 o13 (by omega) (fun g14 w14 f14 o14 e142 e145 => ⟨rfl, w14, ?_⟩)
              refine H g14 w14 ((F12.trans f13).trans f14) (PK.ok o14 ?_)
              have n13 : g13.2.2.2 2 2 = ((b + u.2.2.1 + 1 + 1 + v.2.2.1 + 1 + 1 + y.2.2.1 : Nat) : Int) := by rw [e132]; exact d12.1
              have n10 := d10.1
              -- cells, from the last to the first
              have z14 : ∀ j, j ≠ b + u.2.2.1 + 1 + 1 + v.2.2.1 + 1 → g14.2.2.2 5 j = g12.2.2.2 5 j := fun j hj => by rw [e145 j, if_neg hj, e135]
              have z11 : ∀ j, j < b + u.2.2.1 + 1 + 1 + v.2.2.1 + 1 + 1 → g12.2.2.2 5 j = g11.2.2.2 5 j := fun j hj => d12.2.2 j hj
              have z10 : ∀ j, j ≠ b + u.2.2.1 + 1 → g11.2.2.2 5 j = g10.2.2.2 5 j := fun j hj => by rw [e115 j, if_neg hj]
              have z7 : ∀ j, j < b + u.2.2.1 + 1 + 1 + v.2.2.1 → g10.2.2.2 5 j = g6.2.2.2 5 j := fun j hj => by rw [d10.2.2 j (by omega), d8.2.2 j hj, e75]
              have z5 : ∀ j, j < b + u.2.2.1 → g6.2.2.2 5 j = g1.2.2.2 5 j := fun j hj => by rw [d6.2.2 j (by omega), d5.2.2 j (by omega), d3.2.2 j hj, e25]
              simp only [ifX]
              refine ⟨by rw [e142, n13]; omega, fun j j1 j2 => ?_, fun j hj => by rw [z14 j (by omega), z11 j (by omega), z10 j (by omega), z7 j (by omega), z5 j (by omega), d1.2.2 j hj]⟩
              show g14.2.2.2 5 j = if j < b + u.2.2.1 then _ else _
              by_cases q1 : j < b + u.2.2.1
              · rw [if_pos q1, z14 j (by omega), z11 j (by omega), z10 j (by omega), z7 j (by omega), z5 j q1, d1.2.1 j j1 q1]
              · rw [if_neg q1]
                by_cases q2 : j = b + u.2.2.1
                · rw [if_pos q2, z14 j (by omega), z11 j (by omega), z10 j (by omega), z7 j (by omega), d6.2.2 j (by omega), d5.2.2 j (by omega), d3.2.1 j (by omega) (by omega)]
                · rw [if_neg q2]
                  by_cases q3 : j = b + u.2.2.1 + 1
                  · rw [if_pos q3, z14 j (by omega), z11 j (by omega), e115 j, if_pos q3, n10]; omega
                  · rw [if_neg q3]
                    by_cases q4 : j < b + u.2.2.1 + v.2.2.1 + 2
                    · rw [if_pos q4, z14 j (by omega), z11 j (by omega), z10 j (by omega), z7 j (by omega), d6.2.1 j (by omega) (by omega)]
                    · rw [if_neg q4]
                      by_cases q5 : j = b + u.2.2.1 + v.2.2.1 + 2
                      · rw [if_pos q5, z14 j (by omega), z11 j (by omega), z10 j (by omega), d10.2.2 j (by omega), d8.2.1 j (by omega) (by omega)]
                      · rw [if_neg q5]
                        by_cases q6 : j = b + u.2.2.1 + v.2.2.1 + 3
                        · rw [if_pos q6, e145 j, if_pos (by omega), n13]; omega
                        · rw [if_neg q6, z14 j (by omega), d12.2.1 j (by omega) (by omega)]
                          rw [show b + u.2.2.1 + 1 + 1 + v.2.2.1 + 1 + 1 = b + u.2.2.1 + v.2.2.1 + 4 by omega]
            · have q16 : tkK T N y.1 ≠ 16 := q
              rw [if_neg q16] at H
              simp only [pF] at H
              exact c_aim_f hs w13 o13 (by omega) (fun g w f o => ⟨rfl, w, H g w ((F12.trans f13).trans f) (PK.fl o)⟩)
        · have q15 : tkK T N v.1 ≠ 15 := q
          rw [if_neg q15] at H
          simp only [pF] at H
          exact chD_f hD hs w7 (t6.fr2 f7) o7 (by omega) (fun g w f o => H g w ((F6.trans f7).trans f) (PK.fl (o.mono (by omega))))
    · have q14 : tkK T N u.1 ≠ 14 := q
      rw [if_neg q14] at H
      simp only [pF] at H
      exact chB_f hD hs w2 (t1.fr2 f2) o2 (fun g w f o => H g w ((f1.trans f2).trans f) (PK.fl (o.mono (by omega))))
end RE
