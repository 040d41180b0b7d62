/-! a text's lines: the class, laws; a line whole -/
section LF
variable {scr : Nat × (Nat → Int)} {d : Nat} {h : am_H} {Q : Option am_V → am_H → Prop} {T : Nat → Int} {N M p q D B : Nat} {e : PE} {ds : DS} {h0 g : am_H} {ser : Int}
theorem drS.new {n B2 : Nat} (x : drS h0 h B) (a1 : g.1 = h.1 + 1) (a2 : g.2.1 = h.2.1 + n) (a3 : ∀ c, c ≠ h.1 → g.2.2.1 c = h.2.2.1 c) (a4 : ∀ c, c ≠ h.1 → g.2.2.2 c = h.2.2.2 c) (h1 : B + 1 ≤ B2) (h2 : B + n ≤ B2) (h3 : B ≤ 901) : drS h0 g B2 := by
  obtain ⟨x1, x2, x3, x4, x5, x6, x7, x8, x9, x10, x11, x12⟩ := x
  exact ⟨x1, fun c hc => by rw [a3 c (by omega)]; exact x2 c hc, fun c k hc n hk => by rw [a4 c (by omega)]; exact x3 c k hc n hk, by rw [a4 2 (by omega)]; exact x4, by rw [a3 _ (by omega)]; exact x5, by rw [a3 _ (by omega)]; exact x6, by rw [a3 _ (by omega)]; exact x7, by rw [a4 _ (by omega)]; exact x8, by rw [a4 _ (by omega)]; exact x9, by omega, by omega, by omega⟩
theorem teC.of {g : am_H} (t : teC h T N) (e3 : g.2.2.2 3 = h.2.2.2 3) (e1 : g.2.2.2 1 = h.2.2.2 1) : teC g T N := by
  unfold teC at *
  rw [e3, e1]; exact t
theorem okK.of {g : am_H} (o : okK h T N p) (e3 : g.2.2.2 3 = h.2.2.2 3) : okK g T N p := by
  unfold okK cuC at *
  rw [e3]; exact o
/-- a law: its cell, what it holds -/
theorem c_rlaw (hD : 60 ≤ D) (hs : am_sc scr) (x : stK h0 h T N ser (ds, p)) (hN : N ≤ 900) (I : dsI ds p) (k26 : tkK T N p ≠ 26) (H1 : ∀ z, eB (wN T N (tkE T N p) 31) (lawF T N) = .inr z → ∀ (g : am_H) (l : Nat), stK h0 g T N ser (ds, z.1) → h0.1 + 3 ≤ l → l < g.1 → g.2.2.1 l = (1, z.2.2.1) → (∀ j, j < z.2.2.1 → g.2.2.2 l j = z.2.2.2.1 0 j) → Q (some (.inr (.inr ((l : Nat) : Int)))) g) (H2 : ∀ ee, eB (wN T N (tkE T N p) 31) (lawF T N) = .inl ee → ∀ (g : am_H) (l : Nat), stF h0 g T N ee → Q (some (.inr (.inr ((l : Nat) : Int)))) g) : am_R (am_prog scr) D f_Reader_readLaw 0 [some (.inr (.inr (((2) : Nat) : Int)))] [] h Q := by
  obtain ⟨D, rfl⟩ : ∃ d, D = d + 1 := ⟨D - 1, by omega⟩
  have hp23 := I.1.2.2.2.2.2.2.2.2.2.2.2.2.2.2
  have xx := x
  obtain ⟨x1, x2, x3, x4, x5, x6⟩ := xx
  have pN : p ≤ N := x3.1.1
  have hT := x2.2.2.2.2
  have gt0 := tk_gt pN k26
  refine w_Reader_readLaw_0 hs x1 (c_adv (by omega) hs x1 x2 x3 (fun g wg fg og e5 e2 => ⟨rfl, wg, ?_⟩))
  have y : stK h0 g T N ser (ds, tkE T N p) := x.tok wg fg og (by omega) e2
  -- faulted, with so many codes
  have fin : ∀ (k : am_H) (ee : PE) (M : Nat), wf k → teC k T N → flK k T N M ee → M < 900 → drS h0 k 900 → (∀ (g : am_H) (l : Nat), stF h0 g T N ee → Q (some (.inr (.inr ((l : Nat) : Int)))) g) → am_R (am_prog scr) D f_jA_copyOf 0 [some (.inr (.inr (((5) : Nat) : Int))), some (.inl ((k.2.2.2 2 2))), none] [] k (fun v g5 => ∃ r6, v = some (.inr (.inr r6)) ∧ wf g5 ∧ (-1 ≤ r6 ∧ Q (some (.inr (.inr r6))) g5)) := by
    intro k ee M wk tk lk hM sk K
    have lk' := lk.2.2.2.2
    have hw1 := wk.1
    obtain ⟨n, hn⟩ : ∃ n : Nat, k.2.2.2 2 2 = (n : Int) := ⟨(k.2.2.2 2 2).toNat, by omega⟩
    rw [hn]
    refine c_copy (by omega) hs wk (by omega) (fun g5 w5 a1 a2 a3 _ a4 _ => ⟨_, rfl, w5, by omega, ?_⟩)
    refine K g5 k.1 ⟨w5, tk.of (a4 3 (by omega)) (a4 1 (by omega)), (lk.fr (a4 3 (by omega)) (by rw [a4 2 (by omega)])).mono (by omega), sk.new a1 a2 a3 a4 (by omega) (by omega) (by omega)⟩
  refine c_want (j := 14) (M := 900) (by omega) hs wg y.2.1 og (by omega) (by omega) (by have := y.2.2.2.2.2; omega) (fun q g2 w2 f2 o2 e25 e22 => ⟨rfl, w2, fun h3 q3 => ?_⟩) (fun q g2 w2 f2 o2 => ⟨rfl, w2, fun h3 q3 => ?_⟩)
  · have q31 : tkK T N (tkE T N p) = 31 := q
    have gt1 := tk_gt gt0.2 (show tkK T N (tkE T N p) ≠ 26 by omega)
    have y2 : stK h0 g2 T N ser (ds, tkE T N (tkE T N p)) := y.tok w2 f2 o2 (by omega) e22
    have hq : wN T N (tkE T N p) 31 = .inr (tkE T N (tkE T N p)) := by unfold wN; rw [if_pos q31]
    rw [hq] at H1 H2
    simp only [eB] at H1 H2
    generalize tkE T N (tkE T N p) = p1 at *
    have f3 : frK g2 h3 := by rw [q3]; exact fr.rfl.put (Or.inr (by decide))
    have w3 : wf h3 := by rw [q3]; exact w2.put np_2_2
    have o3 : okK h3 T N p1 := o2.of (by rw [q3, put_c (by omega)])
    have t3 := y2.2.1.fr2 f3
    have s3 := y2.2.2.2.1.fr f3
    have d3 := y2.2.2.2.2.1.fr f3 s3.1 y2.2.2.2.1.2.2.2.2.2.2.2.2.2.1
    refine am_R.to (d := 57) (by omega) (c_law hs hT h3 _ p1 0 p1 893 w3 t3 o3 (by rw [q3, put_eq]; rfl) (by omega) (by omega) (by omega) (fun g4 w4 f4 P4 => ⟨rfl, w4, ?_⟩))
    cases hr : lawF T N p1 with
    | inl ee =>
      rw [hr] at P4
      exact fin g4 ee 893 w4 (t3.fr2 f4) P4 (by omega) ((s3.fr f4).mono (by omega)) (H2 ee hr)
    | inr z =>
      rw [hr] at P4
      obtain ⟨o4, d4⟩ : okK g4 T N z.1 ∧ dK h3 g4 0 z.2.2.1 (z.2.2.2.1 0) := P4
      have gz := (lawF_gd hT gt1.2 hr).n
      have hw1 := w4.1
      have s4 := s3.fr f4
      have d4' := d3.fr f4 s3.1 s3.2.2.2.2.2.2.2.2.2.1
      rw [d4.1, Nat.zero_add]
      refine c_copy (by omega) hs w4 (by omega) (fun g5 w5 a1 a2 a3 a3' a4 a5 => ⟨_, rfl, w5, by omega, ?_⟩)
      have e2 : g5.2.2.2 2 2 = ((0 + z.2.2.1 : Nat) : Int) := by rw [a4 2 (by omega)]; exact d4.1
      refine H1 z hr g5 g4.1 ⟨w5, (t3.fr2 f4).of (a4 3 (by omega)) (a4 1 (by omega)), o4.of (a4 3 (by omega)), s4.new a1 a2 a3 a4 (by simp only; omega) (by simp only; omega) (by simp only; omega), ?_, by rw [e2]; omega⟩ s4.2.2.2.2.2.2.2.2.2.1 (by omega) a3' (fun j hj => ?_)
      · exact d4'.eq (by omega) (fun c _ hc => a3 c (by omega)) (fun c _ hc => a4 c (by omega)) s4.2.2.2.2.2.2.2.2.2.1
      · rw [a5 j hj]; exact d4.2.1 j (by omega) (by omega)
  · have q31 : tkK T N (tkE T N p) ≠ 31 := q
    have hq : wN T N (tkE T N p) 31 = .inl (eF T N (tkE T N p) 2) := by unfold wN; rw [if_neg q31]
    rw [hq] at H2
    have z : stF h0 g2 T N (eF T N (tkE T N p) 2) := y.fl w2 f2 o2 (by simp only; omega)
    have f3 : frK g2 h3 := by rw [q3]; exact fr.rfl.put (Or.inr (by decide))
    have w3 : wf h3 := by rw [q3]; exact w2.put np_2_2
    have l3 : flK h3 T N 0 (eF T N (tkE T N p) 2) := by
      obtain ⟨⟨pp, c1⟩, c2, c3, c4, c5, c6⟩ := z.2.2.1
      have e3 : h3.2.2.2 3 = g2.2.2.2 3 := by rw [q3, put_c (by omega)]
      refine ⟨⟨pp, by unfold cuC at *; rw [e3]; exact c1⟩, by rw [e3]; exact c2, c3, by rw [e3]; exact c4, by rw [q3, put_eq]; omega, by rw [q3, put_eq]; omega⟩
    have sy : drS h0 g2 (tkE T N p) := y.2.2.2.1.fr f2
    refine c_sum_f (by omega) hs w3 (z.2.1.fr2 f3) l3 (fun g4 w4 f4 l4 => ⟨rfl, w4, ?_⟩)
    exact fin g4 _ 0 w4 ((z.2.1.fr2 f3).fr2 f4) l4 (by omega) (((sy.fr f3).fr f4).mono (by omega)) (H2 _ rfl)
theorem stK.law {i l : Nat} {z : PX} (hi : i < 2) (x : stK h0 h T N ser (ds, z.1)) (h1 : h0.1 + 3 ≤ l) (h2 : l < h.1) (h3 : h.2.2.1 l = (1, z.2.2.1)) (h4 : ∀ j, j < z.2.2.1 → h.2.2.2 l j = z.2.2.2.1 0 j) : stK h0 (am_put h h0.1 (12 + i) ((l : Nat) : Int)) T N ser (lawS ds i z, z.1) := by
  obtain ⟨x1, x2, x3, x4, x5, x6⟩ := x
  have h133 := x4.1
  refine ⟨x1.hi h133, x2.hi h133, x3.hi h133, x4.put (Nat.le_refl _) (by omega), ?_, by rw [put_ne (by omega)]; exact x6⟩
  obtain ⟨v1, ⟨v2, v3, v4, v5⟩, ⟨v6, v7, v8, v9, v10⟩, v11, v12, v13⟩ := x5
  have lo : ∀ j, j < 211 → j ≠ 6 + i → j ≠ 8 + i → j ≠ 10 + i → (lawS ds i z).1 j = ds.1 j := fun j h1 h2 h3 h4 => by
    simp only [lawS]
    rw [up_ne h4, up_ne h3, up_ne h2, apC_lo h1]
  have fd : ∀ j, j ≠ 12 + i → (am_put h h0.1 (12 + i) ((l : Nat) : Int)).2.2.2 h0.1 j = h.2.2.2 h0.1 j := fun j hj => put_ne (by omega)
  have old : ∀ k t m, k ≠ 12 + i → lwK h h0.1 k t m → lwK (am_put h h0.1 (12 + i) ((l : Nat) : Int)) h0.1 k t m := fun k t m hk w => w.eq (Nat.le_refl _) (fun _ _ _ => rfl) (fd k hk) (fun c hc _ => put_c (by omega))
  have new : lwK (am_put h h0.1 (12 + i) ((l : Nat) : Int)) h0.1 (12 + i) ((lawS ds i z).1 (6 + i)) ((lawS ds i z).2 i) := by
    have e6 : (lawS ds i z).1 (6 + i) = 1 := by simp only [lawS]; rw [up_ne (by omega), up_ne (by omega), up_eq]
    have el : (lawS ds i z).2 i = (z.2.2.1, z.2.2.2.1 0, z.2.2.2.2) := by simp only [lawS]; rw [if_pos trivial]
    rw [e6, el]
    exact Or.inr ⟨rfl, l, put_eq, h1, h2, h3, fun j hj => by rw [put_ne (by omega)]; exact h4 j hj⟩
  have el : ∀ k, k ≠ i → (lawS ds i z).2 k = ds.2 k := fun k hk => by simp only [lawS]; rw [if_neg hk]
  refine ⟨by rw [fd 0 (by omega)]; exact v1, ⟨by rw [fd 1 (by omega), lo 1 (by omega) (by omega) (by omega) (by omega)]; exact v2, by rw [fd 2 (by omega), lo 2 (by omega) (by omega) (by omega) (by omega)]; exact v3, by rw [fd 3 (by omega), lo 3 (by omega) (by omega) (by omega) (by omega)]; exact v4, by rw [fd 4 (by omega), lo 4 (by omega) (by omega) (by omega) (by omega)]; exact v5⟩, ⟨by rw [fd 7 (by omega), lo 12 (by omega) (by omega) (by omega) (by omega)]; exact v6, by rw [fd 8 (by omega), lo 13 (by omega) (by omega) (by omega) (by omega)]; exact v7, by rw [fd 9 (by omega), lo 5 (by omega) (by omega) (by omega) (by omega)]; exact v8, by rw [fd 10 (by omega), lo 28 (by omega) (by omega) (by omega) (by omega)]; exact v9, by rw [fd 11 (by omega), lo 0 (by omega) (by omega) (by omega) (by omega)]; exact v10⟩, fun s hs => ?_, ?_, ?_⟩
  · rw [lo (16 + s) (by omega) (by omega) (by omega) (by omega), lo (22 + s) (by omega) (by omega) (by omega) (by omega), put_ne (by omega), put_ne (by omega)]; exact v11 s hs
  · rcases (by omega : i = 0 ∨ i = 1) with rfl | rfl
    · exact new
    · rw [lo 6 (by omega) (by omega) (by omega) (by omega), el 0 (by omega)]; exact old 12 _ _ (by omega) v12
  · rcases (by omega : i = 0 ∨ i = 1) with rfl | rfl
    · rw [lo 7 (by omega) (by omega) (by omega) (by omega), el 1 (by omega)]; exact old 13 _ _ (by omega) v13
    · exact new
theorem c_line (hD : 62 ≤ D) (hs : am_sc scr) (x : stK h0 h T N ser (ds, p)) (hN : N ≤ 900) (I : dsI ds p) (k26 : tkK T N p ≠ 26) (H : ∀ g, stR h0 g T N ser (lineF T N ds p) → Q none g) : am_R (am_prog scr) D f_Reader_readLine 0 [some (.inr (.inr (((2) : Nat) : Int)))] [] h Q := by
  obtain ⟨D, rfl⟩ : ∃ d, D = d + 1 := ⟨D - 1, by omega⟩
  obtain ⟨i1, i2, i3, i4, i5, i6, i7, i8, i9, i10, i11, i12, i13, i14, i15⟩ := I.1
  have xx := x
  obtain ⟨x1, x2, x3, x4, x5, x6⟩ := xx
  have pN : p ≤ N := x3.1.1
  have hT := x2.2.2.2.2
  have gt := tk_gt pN k26
  have K : ∀ (r : PE ⊕ (DS × Nat)), r = bodyF T N ds p → ∀ k, stR h0 k T N ser r → am_R (am_prog scr) (D + 1) f_Reader_readLine 243 [some (.inr (.inr (((2) : Nat) : Int)))] [] k Q := by
    intro r er k zk
    refine c_243 (by omega) hs zk hN (fun z hz => ?_) (fun g zg => H g (by rw [er] at zg; exact zg))
    have b := (body_I hT hN pN I (er.symm.trans hz)).1.1.2.2.2.2.2.2.2.2.2.2.2.2.1
    have b2 := (body_I hT hN pN I (er.symm.trans hz)).2.2
    omega
  have law : ∀ i : Nat, i < 2 → tkK T N p = 11 + (i : Int) → (∀ k, stR h0 k T N ser (eB (wN T N (tkE T N p) 31) (fun p1 => eB (lawF T N p1) (fun x => .inr (lawS ds i x, x.1)))) → am_R (am_prog scr) (D + 1) f_Reader_readLine 243 [some (.inr (.inr (((2) : Nat) : Int)))] [] k Q) → am_R (am_prog scr) D f_Reader_readLaw 0 [some (.inr (.inr (((2) : Nat) : Int)))] [] h (fun v g14 => ∃ r15, v = some (.inr (.inr r15)) ∧ wf g14 ∧ ((am_isO g14 (h.2.2.2 2 3) 1) ∧ ((∀ q ∈ wr_l, ¬ (q.1 = ((h.2.2.2 2 3).toNat) ∧ q.2.1 = 12 + i)) ∧ ((-1 ≤ r15) ∧ (∀ h19 : am_H, h19 = am_put g14 ((h.2.2.2 2 3).toNat) (12 + i) r15 → (am_R (am_prog scr) (D + 1) f_Reader_readLine 243 [some (.inr (.inr (((2) : Nat) : Int)))] [] h19 Q)))))) := by
    intro i hi ek K
    have ass : eB (wN T N (tkE T N p) 31) (fun p1 => eB (lawF T N p1) (fun x => (.inr (lawS ds i x, x.1) : PE ⊕ (DS × Nat)))) = eB (eB (wN T N (tkE T N p) 31) (lawF T N)) (fun x => .inr (lawS ds i x, x.1)) := by
      cases wN T N (tkE T N p) 31 <;> rfl
    rw [ass] at K
    refine c_rlaw (by omega) hs x hN I k26 (fun z hz g l y l1 l2 l3 l4 => ⟨_, rfl, y.1, ?_⟩) (fun ee he g l y => ⟨_, rfl, y.1, ?_⟩)
    · have iso := y.2.2.2.1.iso
      rw [y.2.2.2.1.2.2.2.1, ← x4.2.2.2.1] at iso
      refine ⟨iso, ?_⟩
      rw [x4.hd]
      refine ⟨hi_wr x4.1 _, by omega, fun h19 q19 => ?_⟩
      rw [q19]
      rw [hz] at K
      exact K _ (y.law hi l1 l2 l3 l4)
    · have iso := y.2.2.2.iso
      rw [y.2.2.2.2.2.2.1, ← x4.2.2.2.1] at iso
      refine ⟨iso, ?_⟩
      rw [x4.hd]
      refine ⟨hi_wr x4.1 _, by omega, fun h19 q19 => ?_⟩
      rw [q19]
      rw [he] at K
      exact K _ (y.hi (Nat.le_refl _) (by omega))
  refine w_Reader_readLine_0 hs x1 (c_is (j := 6) (by omega) hs x1 x2 x3.1 (by omega) (by omega) ⟨_, rfl, x1, fun c => ?_, fun c => ?_⟩)
  · have c4 : ¬ tkK T N p = 4 := ite10.mp c
    unfold bodyF at K
    rw [if_neg c4] at K
    refine c_is (j := 9) (by omega) hs x1 x2 x3.1 (by omega) (by omega) ⟨_, rfl, x1, fun c => ?_, fun c => ?_⟩
    · have c7 : ¬ tkK T N p = 7 := ite10.mp c
      rw [if_neg c7] at K
      refine c_is (j := 11) (by omega) hs x1 x2 x3.1 (by omega) (by omega) ⟨_, rfl, x1, fun c => ?_, fun c => ?_⟩
      · have c9 : ¬ tkK T N p = 9 := ite10.mp c
        rw [if_neg c9] at K
        refine c_is (j := 12) (by omega) hs x1 x2 x3.1 (by omega) (by omega) ⟨_, rfl, x1, fun c => ?_, fun c => ?_⟩
        · have c10 : ¬ tkK T N p = 10 := ite10.mp c
          rw [if_neg c10] at K
          refine c_is (j := 13) (by omega) hs x1 x2 x3.1 (by omega) (by omega) ⟨_, rfl, x1, fun c => ?_, fun c => ?_⟩
          · have c11 : ¬ tkK T N p = 11 := ite10.mp c
            rw [if_neg c11] at K
            refine c_is (j := 36) (by omega) hs x1 x2 x3.1 (by omega) (by omega) ⟨_, rfl, x1, fun c => ?_, fun c => ?_⟩
            · have c12 : ¬ tkK T N p = 12 := ite10.mp c
              rw [if_neg c12] at K
              exact c_ref (M := 900) hs x1 x2 x3 (by omega) (by omega) (fun g wg fg og => ⟨rfl, wg, K _ rfl g (x.fl wg fg og (by simp only; omega))⟩)
            · have c12 : tkK T N p = 12 := yes10 c
              rw [if_pos c12] at K
              exact law 1 (by omega) (by omega) (K _ rfl)
          · have c11 : tkK T N p = 11 := yes10 c
            rw [if_pos c11] at K
            exact law 0 (by omega) (by omega) (K _ rfl)
        · have c10 : tkK T N p = 10 := yes10 c
          rw [if_pos c10] at K
          refine c_adv (by omega) hs x1 x2 x3 (fun g wg fg og e5 e2 => ⟨rfl, wg, ?_⟩)
          have y : stK h0 g T N ser (ds, tkE T N p) := x.tok wg fg og (by omega) e2
          refine c_field (Q := fun _ k => am_R (am_prog scr) (D + 1) f_Reader_readLine 243 [some (.inr (.inr (((2) : Nat) : Int)))] [] k Q) (by omega) hs y hN (k := 10) (m := 28) (by decide) (fun z hz k yk => ?_) (fun ee he k yk => ?_)
          · exact K _ rfl k (by rw [hz]; exact yk)
          · exact K _ rfl k (by rw [he]; exact yk)
      · have c9 : tkK T N p = 9 := yes10 c
        rw [if_pos c9] at K
        refine c_adv (by omega) hs x1 x2 x3 (fun g wg fg og e5 e2 => ⟨rfl, wg, ?_⟩)
        have y : stK h0 g T N ser (ds, tkE T N p) := x.tok wg fg og (by omega) e2
        refine ⟨y.2.2.2.1.iso, ?_⟩
        have e2' : g.2.2.2 (g.2.2.2 2 3).toNat 2 = ds.1 2 := by rw [y.2.2.2.1.hd]; exact y.2.2.2.2.1.2.1.2.1
        rw [e2', am_w_id (by omega) (by omega)]
        refine c_field (Q := fun _ k => am_R (am_prog scr) (D + 1) f_Reader_readLine 243 [some (.inr (.inr (((2) : Nat) : Int)))] [] k Q) (by omega) hs y hN (k := 9) (m := 5) (by decide) (fun z hz k yk => ?_) (fun ee he k yk => ?_)
        · exact K _ rfl k (by rw [hz]; exact yk)
        · exact K _ rfl k (by rw [he]; exact yk)
    · have c7 : tkK T N p = 7 := yes10 c
      rw [if_pos c7] at K
      refine c_adv (by omega) hs x1 x2 x3 (fun g wg fg og e5 e2 => ⟨rfl, wg, ?_⟩)
      have y : stK h0 g T N ser (ds, tkE T N p) := x.tok wg fg og (by omega) e2
      refine ⟨y.2.2.2.1.iso, ?_⟩
      have e4' : g.2.2.2 (g.2.2.2 2 3).toNat 4 = ds.1 4 := by rw [y.2.2.2.1.hd]; exact y.2.2.2.2.1.2.1.2.2.2
      rw [e4', am_w_id (by omega) (by omega)]
      -- the sound behind it
      refine c_field (Q := fun _ h49 => am_R (am_prog scr) D f_Tokens_want 0 [some (.inr (.inr (((3) : Nat) : Int))), some (.inr (.inr (-12)))] [] h49 (fun v g50 => v = none ∧ wf g50 ∧ (am_isO g50 (g50.2.2.2 2 3) 1 ∧ (am_R (am_prog scr) D f_Tokens_wantNumber 0 [some (.inr (.inr (((3) : Nat) : Int))), some (.inl (0)), some (.inl ((am_w ((g50.2.2.2 ((g50.2.2.2 2 3).toNat) 2) - 1)))), none] [] g50 (fun v g52 => ∃ r53, v = some (.inl r53) ∧ wf g52 ∧ ((am_isO g52 (g50.2.2.2 2 3) 1) ∧ ((∀ q ∈ wr_l, ¬ (q.1 = ((g50.2.2.2 2 3).toNat) ∧ q.2.1 = 8)) ∧ (∀ h56 : am_H, h56 = am_put g52 ((g50.2.2.2 2 3).toNat) 8 r53 → (am_R (am_prog scr) (D + 1) f_Reader_readLine 243 [some (.inr (.inr (((2) : Nat) : Int)))] [] h56 Q))))))))) (by omega) hs y hN (k := 7) (m := 12) (by decide) (fun z hz k yk => ?_) (fun ee he k yk => ?_)
      · rw [hz] at K
        simp only [eB] at K
        have zN : z.2 ≤ N := yk.2.2.1.1.1
        refine c_want (j := 10) (M := 900) (by omega) hs yk.1 yk.2.1 yk.2.2.1 (by omega) (by omega) (by have := yk.2.2.2.2.2; omega) (fun q g4 w4 f4 o4 e45 e42 => ⟨rfl, w4, ?_⟩) (fun q g4 w4 f4 o4 => ⟨rfl, w4, ?_⟩)
        · have q8 : tkK T N z.2 = 8 := q
          have gt3 := tk_gt zN (show tkK T N z.2 ≠ 26 by omega)
          have y4 : stK h0 g4 T N ser ((up ds.1 12 z.1, ds.2), tkE T N z.2) := yk.tok w4 f4 o4 (by omega) e42
          have hq : wN T N z.2 8 = .inr (tkE T N z.2) := by unfold wN; rw [if_pos q8]
          rw [hq] at K
          simp only at K
          refine ⟨y4.2.2.2.1.iso, ?_⟩
          have e2' : g4.2.2.2 (g4.2.2.2 2 3).toNat 2 = ds.1 2 := by rw [y4.2.2.2.1.hd]; exact y4.2.2.2.2.1.2.1.2.1
          rw [e2', am_w_id (by omega) (by omega)]
          refine c_field (Q := fun _ k => am_R (am_prog scr) (D + 1) f_Reader_readLine 243 [some (.inr (.inr (((2) : Nat) : Int)))] [] k Q) (by omega) hs y4 hN (k := 8) (m := 13) (by decide) (fun u hu k yk => ?_) (fun ee he k yk => ?_)
          · exact K _ rfl k (by rw [hu]; exact yk)
          · exact K _ rfl k (by rw [he]; exact yk)
        · have q8 : tkK T N z.2 ≠ 8 := q
          have hq : wN T N z.2 8 = .inl (eF T N z.2 2) := by unfold wN; rw [if_neg q8]
          rw [hq] at K
          have y4 : stF h0 g4 T N (eF T N z.2 2) := yk.fl w4 f4 o4 (by simp only; omega)
          refine ⟨y4.2.2.2.iso, ?_⟩
          exact c_field_f (Q := fun _ k => am_R (am_prog scr) (D + 1) f_Reader_readLine 243 [some (.inr (.inr (((2) : Nat) : Int)))] [] k Q) (by omega) hs y4 (by omega) (fun k yk => K _ rfl k yk)
      · rw [he] at K
        refine c_want_f (by omega) hs yk.1 yk.2.2.1 ⟨rfl, yk.1, yk.2.2.2.iso, ?_⟩
        exact c_field_f (Q := fun _ k => am_R (am_prog scr) (D + 1) f_Reader_readLine 243 [some (.inr (.inr (((2) : Nat) : Int)))] [] k Q) (by omega) hs yk (by omega) (fun k yk => K _ rfl k yk)
  · have c4 : tkK T N p = 4 := yes10 c
    exact c_sleeper (by omega) hs x hN I c4 (fun g yg => ⟨rfl, by revert yg; cases bodyF T N ds p with
      | inl ee => exact fun z => z.1
      | inr u => exact fun z => z.1, K _ rfl g yg⟩)
end LF
