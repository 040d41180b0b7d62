/-! a text's lines: the reference, each kind of line -/
section LN
variable {scr : Nat × (Nat → Int)} {d : Nat} {h : am_H} {Q : Option am_V → am_H → Prop} {T : Nat → Int} {N p D : Nat} {e : PE} {ds : DS}
theorem BM.fl {g : am_H} (a : flM g e) : BM T N g (.inl e) := a
theorem BM.ok {g : am_H} {z : DS × Nat} (a : okM g T N z.2) (b : rwM g z.1.1) : BM T N g (.inr z) := ⟨a, b⟩
theorem dM.rw {g : am_H} {a : Nat → Int} {r : List Int} (x : rwM h a) (d : dM h g (a 211).toNat r) : rwM g (apC a r) := by
  intro j hj
  rw [apC_n, Int.toNat_natCast] at hj
  obtain ⟨d1, d2, d3⟩ := d
  by_cases c1 : j < 211
  · rw [apC_lo c1, d3 j (by omega)]; exact x j (by omega)
  · by_cases c2 : j = 211
    · subst c2; rw [apC_n, d1]
    · by_cases c3 : j < 212 + (a 211).toNat
      · rw [apC_mid (by omega), d3 j (by omega)]; exact x j (by omega)
      · obtain ⟨k, rfl⟩ : ∃ k, j = 212 + (a 211).toNat + k := ⟨j - (212 + (a 211).toNat), by omega⟩
        rw [apC_hi (by omega)]
        exact d2 k (by omega)
theorem m_opens (hD : 9 ≤ D) (hs : am_sc scr) (hw : wf h) (t : teM h T N) (o : okM h T N p) (x : rwM h ds.1) (I : dsI ds p) (H : ∀ g, wf g → fr [113] RMF h g → BM T N g (eB (nN T N (tkE T N p) 0 (ds.1 4 - 1)) (fun l => eB (wN T N l.2 8) (fun p2 => eB (nN T N p2 0 (ds.1 2 - 1)) (fun r => .inr ((up (up ds.1 12 l.1) 13 r.1, ds.2), r.2))))) → Q none g) : am_R (am_prog scr) D f_M_readOpens 0 [some (.inr (.inr ((109 : Nat) : Int)))] [] h Q := by
  obtain ⟨D, rfl⟩ : ∃ d, D = d + 1 := ⟨D - 1, by omega⟩
  obtain ⟨x1, x2, x3, x4, x5, x6, x7, x8, x9, x10, x11, x12, x13, x14, x15⟩ := I.1
  refine w_M_readOpens_0 hs hw (m_next (by omega) hs hw t o (fun g wg fg og eg => ⟨rfl, wg, ?_⟩))
  have tg := t.fr2 fg
  rw [show g.2.2.2 113 4 = ds.1 4 by rw [eg]; exact x 4 (by omega), am_w_id (by omega) (by omega)]
  refine m_takes (by omega) hs wg tg og (fun z hz g2 w2 f2 o2 e2 => ⟨_, rfl, w2, fun h4 q4 => ?_⟩) (fun e he g2 v w2 f2 o2 e2 => ⟨_, rfl, w2, fun h4 q4 => ?_⟩)
  · rw [hz] at H
    have x4 : rwM h4 (up ds.1 12 z.1) := by rw [q4]; exact ((x.of eg).of e2).put (by omega)
    have F4 : fr [113] RMF h h4 := by rw [q4]; exact f113 (fg.trans f2)
    have w4 : wf h4 := by rw [q4]; exact w2.p113
    have o4 : okM h4 T N z.2 := by rw [q4]; exact o2.p113
    rw [show h4.2.2.2 113 2 = ds.1 2 by rw [x4 2 (by omega), up_ne (by omega)], am_w_id (by omega) (by omega)]
    have as : ∀ p, (fun p2 => eB (nN T N p2 0 (ds.1 2 - 1)) (fun r => (.inr ((up (up ds.1 12 z.1) 13 r.1, ds.2), r.2) : PE ⊕ (DS × Nat)))) p = eB (nN T N p 0 (ds.1 2 - 1)) (fun r => .inr ((up (up ds.1 12 z.1) 13 r.1, ds.2), r.2)) := fun p => rfl
    have ass : eB (wN T N z.2 8) (fun p2 => eB (nN T N p2 0 (ds.1 2 - 1)) (fun r => (.inr ((up (up ds.1 12 z.1) 13 r.1, ds.2), r.2) : PE ⊕ (DS × Nat)))) = eB (eB (wN T N z.2 8) (fun p => nN T N p 0 (ds.1 2 - 1))) (fun r => .inr ((up (up ds.1 12 z.1) 13 r.1, ds.2), r.2)) := by
      cases wN T N z.2 8 <;> rfl
    have H2 : ∀ g, wf g → fr [113] RMF h g → BM T N g (eB (eB (wN T N z.2 8) (fun p => nN T N p 0 (ds.1 2 - 1))) (fun r => .inr ((up (up ds.1 12 z.1) 13 r.1, ds.2), r.2))) → Q none g := fun g a b c => H g a b (by rw [← ass] at c; exact c)
    refine m_named (by omega) hs w4 (t.fr2 F4) o4 (fun z2 hz2 g5 w5 f5 o5 e5 => ⟨_, rfl, w5, fun h7 q7 => ?_⟩) (fun e he g5 v w5 f5 o5 e5 => ⟨_, rfl, w5, fun h7 q7 => ?_⟩)
    · rw [hz2] at H2
      rw [q7]
      exact H2 _ w5.p113 (f113 (F4.trans f5)) (BM.ok (z := ((up (up ds.1 12 z.1) 13 z2.1, ds.2), z2.2)) o5.p113 ((x4.of e5).put (by omega)))
    · rw [he] at H2
      rw [q7]
      exact H2 _ w5.p113 (f113 (F4.trans f5)) (BM.fl o5.p113)
  · rw [he] at H
    have F4 : fr [113] RMF h h4 := by rw [q4]; exact f113 (fg.trans f2)
    have w4 : wf h4 := by rw [q4]; exact w2.p113
    have o4 : flM h4 e := by rw [q4]; exact o2.p113
    refine m_named_f (by omega) hs w4 o4 (fun v => ⟨_, rfl, w4, fun h7 q7 => ?_⟩)
    rw [q7]
    exact H _ w4.p113 (f113 F4) (BM.fl o4.p113)
theorem m_sleeper (hD : 9 ≤ D) (hs : am_sc scr) (hw : wf h) (t : teM h T N) (o : okM h T N p) (x : rwM h ds.1) (I : dsI ds p) (k4 : tkK T N p = 4) (H : ∀ g, wf g → fr [113] RMF h g → BM T N g (bodyF T N ds p) → Q none g) : am_R (am_prog scr) D f_M_readSleeper 0 [some (.inr (.inr ((109 : Nat) : Int))), none] [] h Q := by
  obtain ⟨D, rfl⟩ : ∃ d, D = d + 1 := ⟨D - 1, by omega⟩
  obtain ⟨x1, x2, x3, x4, x5, x6, x7, x8, x9, x10, x11, x12, x13, x14, x15⟩ := I.1
  unfold bodyF at H
  rw [if_pos k4] at H
  obtain ⟨s, hs4⟩ : ∃ s : Nat, ds.1 4 = (s : Int) := ⟨(ds.1 4).toNat, by omega⟩
  have es : (ds.1 4).toNat = s := by omega
  refine w_M_readSleeper_0 hs hw (fun y1 h1 => ?_)
  rw [x 4 (by omega), hs4] at h1
  subst h1
  rw [x 1 (by omega)]
  refine ⟨fun c => ?_, fun c => ?_⟩
  · rw [hs4, if_neg c] at H
    have s6 : s < 6 := by omega
    refine w_M_readSleeper_22 hs hw ⟨fun _ => ?_, fun z => absurd o.2 z⟩
    refine m_next (by omega) hs hw t o (fun g wg fg og eg => ⟨rfl, wg, ?_⟩)
    have tg := t.fr2 fg
    have xg := x.of eg
    -- faulted: the rest of the line
    have f72 : ∀ (k : am_H) (ee : PE), wf k → fr [113] RMF h k → flM k ee → (∀ g, wf g → fr [113] RMF h g → BM T N g (.inl ee) → Q none g) → am_R (am_prog scr) (D + 1) f_M_readSleeper 72 [some (.inr (.inr ((109 : Nat) : Int))), some (.inl ((s : Int)))] [] k Q := by
      intro k ee wk fk lk HH
      refine w_M_readSleeper_72 hs wk ?_
      rw [am_w_id (x := (16 : Int) + (s : Int)) (by omega) (by omega), am_w_id (x := (22 : Int) + (s : Int)) (by omega) (by omega)]
      refine m_takes_f (e := ee) (by omega) hs wk lk (fun v => ⟨_, rfl, wk, by omega, fun h4 q4 => ?_⟩)
      have w4 : wf h4 := by rw [q4]; exact wk.p113
      have o4 : flM h4 ee := by rw [q4]; exact lk.p113
      have F4 : fr [113] RMF h h4 := by rw [q4]; exact f113 fk
      refine m_named_f (e := ee) (by omega) hs w4 o4 (fun v => ⟨_, rfl, w4, by omega, fun h8 q8 => ?_⟩)
      have o8 : flM h8 ee := by rw [q8]; exact o4.p113
      have nz : h8.2.2.2 109 11 ≠ 0 := by rw [o8.1]; exact o8.2.1
      exact ⟨fun _ => HH h8 (by rw [q8]; exact w4.p113) (by rw [q8]; exact f113 F4) (BM.fl o8), fun z => absurd z nz⟩
    have f47 : ∀ (k : am_H) (ee : PE), wf k → fr [113] RMF h k → flM k ee → (∀ g, wf g → fr [113] RMF h g → BM T N g (.inl ee) → Q none g) → am_R (am_prog scr) (D + 1) f_M_readSleeper 47 [some (.inr (.inr ((109 : Nat) : Int))), some (.inl ((s : Int)))] [] k Q := by
      intro k ee wk fk lk HH
      exact w_M_readSleeper_47 hs wk (m_is_f (e := ee) hs wk lk ⟨_, rfl, wk, fun _ => f72 k ee wk fk lk HH, fun c => absurd rfl c⟩)
    refine m_eats (by omega) hs wg tg og (fun q g2 w2 f2 o2 e2 => ⟨_, rfl, w2, fun _ => ?_, fun c => absurd c (by omega)⟩) (fun q => ⟨_, rfl, wg, fun c => absurd rfl c, fun _ => ?_⟩)
    · have F2 := fg.trans f2
      have x2' := xg.of e2
      have t2 := t.fr2 F2
      have hq : wN T N (tkE T N p) 5 = .inr (tkE T N (tkE T N p)) := by unfold wN; rw [if_pos q]
      rw [hq] at H
      simp only [eB] at H
      generalize tkE T N (tkE T N p) = p1 at *
      -- the rest, from the bed on
      have s72 : ∀ (k : am_H), wf k → fr [113] RMF h k → okM k T N p1 → rwM k ds.1 → (∀ g, wf g → fr [113] RMF h g → BM T N g (eB (nN T N p1 0 (ds.1 1 - 1)) (fun b => eB (wN T N b.2 6) (fun p3 => eB (nN T N p3 0 9) (fun r => .inr (slS ds b.1 r.1, r.2))))) → Q none g) → am_R (am_prog scr) (D + 1) f_M_readSleeper 72 [some (.inr (.inr ((109 : Nat) : Int))), some (.inl ((s : Int)))] [] k Q := by
        intro k wk fk ok xk HH
        have tk := t.fr2 fk
        refine w_M_readSleeper_72 hs wk ?_
        rw [am_w_id (x := (16 : Int) + (s : Int)) (by omega) (by omega), am_w_id (x := (22 : Int) + (s : Int)) (by omega) (by omega), xk 1 (by omega), am_w_id (by omega) (by omega), show ((16 : Int) + (s : Int)).toNat = 16 + s by omega, show ((22 : Int) + (s : Int)).toNat = 22 + s by omega]
        refine m_takes (by omega) hs wk tk ok (fun z hz g3 w3 f3 o3 e3 => ⟨_, rfl, w3, by omega, fun h4 q4 => ?_⟩) (fun ee he g3 v w3 f3 o3 e3 => ⟨_, rfl, w3, by omega, fun h4 q4 => ?_⟩)
        · rw [hz] at HH
          have X4 : rwM h4 (up ds.1 (16 + s) z.1) := by rw [q4]; exact (xk.of e3).put (by omega)
          have F4 : fr [113] RMF h h4 := by rw [q4]; exact f113 (fk.trans f3)
          have w4 : wf h4 := by rw [q4]; exact w3.p113
          have o4 : okM h4 T N z.2 := by rw [q4]; exact o3.p113
          have ass : eB (wN T N z.2 6) (fun p3 => eB (nN T N p3 0 9) (fun r => (.inr (slS ds z.1 r.1, r.2) : PE ⊕ (DS × Nat)))) = eB (eB (wN T N z.2 6) (fun p => nN T N p 0 9)) (fun r => .inr (slS ds z.1 r.1, r.2)) := by
            cases wN T N z.2 6 <;> rfl
          have H2 : ∀ g, wf g → fr [113] RMF h g → BM T N g (eB (eB (wN T N z.2 6) (fun p => nN T N p 0 9)) (fun r => .inr (slS ds z.1 r.1, r.2))) → Q none g := fun g a b c => HH g a b (by rw [← ass] at c; exact c)
          refine m_named (by omega) hs w4 (t.fr2 F4) o4 (fun z2 hz2 g5 w5 f5 o5 e5 => ⟨_, rfl, w5, by omega, fun h8 q8 => ?_⟩) (fun ee he g5 v w5 f5 o5 e5 => ⟨_, rfl, w5, by omega, fun h8 q8 => ?_⟩)
          · rw [hz2] at H2
            have X8 : rwM h8 (up (up ds.1 (16 + s) z.1) (22 + s) z2.1) := by rw [q8]; exact (X4.of e5).put (by omega)
            have o8 : okM h8 T N z2.2 := by rw [q8]; exact o5.p113
            refine ⟨fun z => absurd o8.2 z, fun _ h9 q9 => ?_⟩
            rw [X8 4 (by omega), up_ne (by omega), up_ne (by omega), hs4, am_w_id (by omega) (by omega)] at q9
            rw [q9]
            refine H2 _ (by rw [q8]; exact w5.p113.p113) (by rw [q8]; exact f113 (f113 (F4.trans f5))) (BM.ok (z := (slS ds z.1 z2.1, z2.2)) o8.p113 ?_)
            have := X8.put (k := 4) (v := (s : Int) + 1) (by omega)
            simp only [slS]
            rw [es, hs4]
            exact this
          · rw [he] at H2
            have o8 : flM h8 ee := by rw [q8]; exact o5.p113
            have nz : h8.2.2.2 109 11 ≠ 0 := by rw [o8.1]; exact o8.2.1
            exact ⟨fun _ => H2 h8 (by rw [q8]; exact w5.p113) (by rw [q8]; exact f113 (F4.trans f5)) (BM.fl o8), fun z => absurd z nz⟩
        · rw [he] at HH
          have F4 : fr [113] RMF h h4 := by rw [q4]; exact f113 (fk.trans f3)
          have w4 : wf h4 := by rw [q4]; exact w3.p113
          have o4 : flM h4 ee := by rw [q4]; exact o3.p113
          refine m_named_f (e := ee) (by omega) hs w4 o4 (fun v => ⟨_, rfl, w4, by omega, fun h8 q8 => ?_⟩)
          have o8 : flM h8 ee := by rw [q8]; exact o4.p113
          have nz : h8.2.2.2 109 11 ≠ 0 := by rw [o8.1]; exact o8.2.1
          exact ⟨fun _ => HH h8 (by rw [q8]; exact w4.p113) (by rw [q8]; exact f113 F4) (BM.fl o8), fun z => absurd z nz⟩
      refine w_M_readSleeper_47 hs w2 (m_is hs w2 o2 ⟨_, rfl, w2, fun c => ?_, fun c => ?_⟩)
      · have q25 := ite10.mp c
        rw [if_neg (fun z => q25 z.1)] at H
        exact s72 g2 w2 F2 o2 x2' H
      · have q25 := yes10 c
        rw [o2.1.2.2.2.2 q25]
        refine m_told hs w2 x2' (by omega) ⟨_, rfl, w2, fun c => ?_, fun c => ?_⟩
        · rw [if_neg (fun z => by rw [z.2] at c; omega)] at H
          exact s72 g2 w2 F2 o2 x2' H
        · have b1 : btL ds.1 (tkN T N p1 0) 6 0 = 1 := by
            rcases btL_t (a := ds.1) (b := tkN T N p1 0) 6 0 with z | ⟨z, _⟩
            · exact z
            · exact absurd z c
          rw [if_pos ⟨q25, b1⟩] at H
          exact m_fails hs w2 o2 (by omega) (fun g3 w3 f3 o3 => ⟨rfl, w3, f72 g3 _ w3 (F2.trans (f3.mono (by simp) (by decide))) o3 H⟩)
    · have hq : wN T N (tkE T N p) 5 = .inl (eF T N (tkE T N p) 2) := by unfold wN; rw [if_neg q]
      rw [hq] at H
      exact m_fails hs wg og (by omega) (fun g3 w3 f3 o3 => ⟨rfl, w3, f47 g3 _ w3 (fg.trans (f3.mono (by simp) (by decide))) o3 H⟩)
  · rw [hs4, if_pos c] at H
    refine m_fails hs hw o (by omega) (fun g wg fg og => ⟨rfl, wg, ?_⟩)
    have nz : g.2.2.2 109 11 ≠ 0 := by rw [og.1]; exact og.2.1
    exact w_M_readSleeper_22 hs wg ⟨fun z => absurd z nz, fun _ => H g wg (fg.mono (by simp) (by decide)) (BM.fl og)⟩
theorem m_rlaw {i : Nat} (hD : 59 ≤ D) (hi : i < 2) (hs : am_sc scr) (hw : wf h) (t : teM h T N) (o : okM h T N p) (x : rwM h ds.1) (I : dsI ds p) (k26 : tkK T N p ≠ 26) (H : ∀ g, wf g → fr [113] RMF h g → BM T N g (eB (wN T N (tkE T N p) 31) (fun p1 => eB (lawF T N p1) (fun x => .inr (lawS ds i x, x.1)))) → Q none g) : am_R (am_prog scr) D f_M_readLaw 0 [some (.inr (.inr ((109 : Nat) : Int))), some (.inl ((i : Int))), none] [] h Q := by
  obtain ⟨D, rfl⟩ : ∃ d, D = d + 1 := ⟨D - 1, by omega⟩
  obtain ⟨x1, x2, x3, x4, x5, x6, x7, x8, x9, x10, x11, x12, x13, x14, x15⟩ := I.1
  have hT := t.2.2.2
  have gt0 := tk_gt o.1.1 k26
  refine w_M_readLaw_0 hs hw (m_next (by omega) hs hw t o (fun g wg fg og eg => ⟨rfl, wg, ?_⟩))
  have tg := t.fr2 fg
  have xg := x.of eg
  refine m_eats (by omega) hs wg tg og (fun q g2 w2 f2 o2 e2 => ⟨_, rfl, w2, fun _ => ?_, fun c => absurd c (by omega)⟩) (fun q => ⟨_, rfl, wg, fun c => absurd rfl c, fun _ => ?_⟩)
  · have F2 := fg.trans f2
    have X2 := xg.of e2
    have gt1 := tk_gt gt0.2 (show tkK T N (tkE T N p) ≠ 26 by omega)
    have hq : wN T N (tkE T N p) 31 = .inr (tkE T N (tkE T N p)) := by unfold wN; rw [if_pos q]
    rw [hq] at H
    simp only [eB] at H
    generalize tkE T N (tkE T N p) = p1 at *
    refine w_M_readLaw_18 hs w2 (fun y1 h1 => ?_)
    rw [X2 211 (by omega)] at h1
    subst h1
    refine am_R.to (d := 58) (by omega) (m_law hs hT g2 _ p1 (ds.1 211).toNat w2 (t.fr2 F2) o2 (by rw [X2 211 (by omega)]; omega) (by omega) (fun g3 w3 f3 P3 => ⟨rfl, w3, ?_⟩))
    have F3 := F2.trans f3
    cases hr : lawF T N p1 with
    | inl ee =>
      rw [hr] at P3 H
      have fl : flM g3 ee := P3
      have nz : g3.2.2.2 109 11 ≠ 0 := by rw [fl.1]; exact fl.2.1
      exact ⟨fun z => absurd z nz, fun _ => H g3 w3 F3 (BM.fl fl)⟩
    | inr y =>
      rw [hr] at P3 H
      obtain ⟨o3, d3⟩ : okM g3 T N y.1 ∧ dM g2 g3 (ds.1 211).toNat y.2.1 := P3
      refine ⟨fun _ => ?_, fun z => absurd o3.2 z⟩
      have X3 := d3.rw X2
      have gy := lawF_gd hT gt1.2 hr
      have tN := t.1
      have gy1 := gy.2.1
      have gy2 := gy.2.2.2.1
      rw [am_w_id (x := (6 : Int) + (i : Int)) (by omega) (by omega), am_w_id (x := (8 : Int) + (i : Int)) (by omega) (by omega), am_w_id (x := (10 : Int) + (i : Int)) (by omega) (by omega), show ((6 : Int) + (i : Int)).toNat = 6 + i by omega, show ((8 : Int) + (i : Int)).toNat = 8 + i by omega, show ((10 : Int) + (i : Int)).toNat = 10 + i by omega]
      refine ⟨by omega, fun h4 q4 => ⟨by omega, fun h6 q6 => ⟨by omega, fun h8 q8 => ?_⟩⟩⟩
      have X4 : rwM h4 (up (apC ds.1 y.2.1) (6 + i) 1) := by rw [q4]; exact X3.put (k := 6 + i) (v := 1) (by omega)
      have X6 : rwM h6 (up (up (apC ds.1 y.2.1) (6 + i) 1) (8 + i) (ds.1 211)) := by rw [q6]; exact X4.put (k := 8 + i) (v := ds.1 211) (by omega)
      have e6 : h6.2.2.2 113 211 = (((ds.1 211).toNat + y.2.1.length : Nat) : Int) := by rw [X6 211 (by rw [up_ne (by omega), up_ne (by omega), apC_n]; omega), up_ne (by omega), up_ne (by omega), apC_n]
      rw [e6, am_w_id (by omega) (by omega), show (((ds.1 211).toNat + y.2.1.length : Nat) : Int) - ds.1 211 = (y.2.1.length : Int) by omega] at q8
      rw [q8]
      have f6 : fr [113] RMF h h6 := by rw [q6, q4]; exact f113 (f113 F3)
      have w6 : wf h6 := by rw [q6, q4]; exact w3.p113.p113
      have o6 : okM h6 T N y.1 := by rw [q6, q4]; exact o3.p113.p113
      exact H _ w6.p113 (f113 f6) (BM.ok (z := (lawS ds i y, y.1)) o6.p113 (X6.put (k := 10 + i) (v := (y.2.1.length : Int)) (by omega)))
  · have hq : wN T N (tkE T N p) 31 = .inl (eF T N (tkE T N p) 2) := by unfold wN; rw [if_neg q]
    rw [hq] at H
    refine m_fails hs wg og (by omega) (fun g3 w3 f3 o3 => ⟨rfl, w3, ?_⟩)
    refine w_M_readLaw_18 hs w3 (fun y1 _ => m_sum_f (by omega) hs w3 o3 ⟨rfl, w3, ?_⟩)
    have nz : g3.2.2.2 109 11 ≠ 0 := by rw [o3.1]; exact o3.2.1
    exact ⟨fun z => absurd z nz, fun _ => H g3 w3 (fg.trans (f3.mono (by simp) (by decide))) (BM.fl o3)⟩
end LN
