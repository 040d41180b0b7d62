/-! house: the reference, from its first line on -/
section HO
variable {scr : Nat × (Nat → Int)} {d : Nat} {h : am_H} {Q : Option am_V → am_H → Prop} {T : Nat → Int} {N p d : Nat} {e : PE} {ds : DS} {x1 : Int}
theorem lines_I (t : ∀ k, 0 ≤ T k ∧ T k < 256) (hN : N ≤ 900) : ∀ (m : Nat) (r : DS × Nat) (z : DS), r.2 ≤ N → dsI r.1 r.2 → linesF T N m r = .inr z → ∃ p, p ≤ N ∧ dsI z p := by
  intro m
  induction m with
  | zero => intro r z hp I h; simp only [linesF, Sum.inr.injEq] at h; subst h; exact ⟨r.2, hp, I⟩
  | succ m ih =>
    intro r z hp I h
    simp only [linesF] at h
    by_cases c : tkK T N r.2 = 26
    · rw [if_pos c] at h; simp only [Sum.inr.injEq] at h; subst h; exact ⟨r.2, hp, I⟩
    · rw [if_neg c] at h
      obtain ⟨u, h1, h⟩ := eB_inr h
      obtain ⟨i1, i2, i3⟩ := line_I t hN hp I h1
      exact ih u z i3 i1 h
theorem text_I (t : ∀ k, 0 ≤ T k ∧ T k < 256) (hN : N ≤ 900) {z : DS} (h : textF T N = .inr z) : ∃ p, p ≤ N ∧ dsI z p := by
  unfold textF at h
  obtain ⟨r, h1, h⟩ := eB_inr h
  obtain ⟨i1, i2⟩ := head_I t h1
  exact lines_I t hN 900 r z i2 i1 h
theorem m_lines (hs : am_sc scr) (t0 : teM h T N) : ∀ (m : Nat) (r : DS × Nat) (g : am_H), N < r.2 + m → r.2 ≤ N → dsI r.1 r.2 → wf g → fr [113] RMF h g → okM g T N r.2 → rwM g r.1.1 → (∀ g, wf g → fr [113] RMF h g → EM g (linesF T N m r) → am_R (am_prog scr) (d + 61) f_M_house 138 [some (.inr (.inr ((109 : Nat) : Int))), some (.inl (x1)), none] [] g Q) → am_R (am_prog scr) (d + 61) f_M_house 111 [some (.inr (.inr ((109 : Nat) : Int))), some (.inl (x1)), none] [] g Q := by
  intro m
  have tN := t0.1
  have hT := t0.2.2.2
  induction m with
  | zero => intro r g h1 h2; omega
  | succ m ih =>
    intro r g h1 h2 I wg fg og xg K
    simp only [linesF] at K
    have tg := t0.fr2 fg
    refine w_M_house_111 hs wg ⟨fun z => absurd og.2 z, fun _ => ?_⟩
    rw [og.1.2.2.2.1]
    refine ⟨fun c => ?_, fun c => ?_⟩
    · rw [if_pos c] at K
      exact K g wg fg ⟨og.2, xg⟩
    · rw [if_neg c] at K
      refine m_line (by omega) hs wg tg og xg I c (fun g2 w2 f2 B2 => ⟨rfl, w2, ?_⟩)
      have F2 := fg.trans f2
      have f111 : ∀ (k : am_H) (ee : PE), wf k → fr [113] RMF h k → flM k ee → (∀ g, wf g → fr [113] RMF h g → EM g (.inl ee) → am_R (am_prog scr) (d + 61) f_M_house 138 [some (.inr (.inr ((109 : Nat) : Int))), some (.inl (x1)), none] [] g Q) → am_R (am_prog scr) (d + 61) f_M_house 111 [some (.inr (.inr ((109 : Nat) : Int))), some (.inl (x1)), none] [] k Q := by
        intro k ee wk fk lk KK
        have nz : k.2.2.2 109 11 ≠ 0 := by rw [lk.1]; exact lk.2.1
        exact w_M_house_111 hs wk ⟨fun _ => KK k wk fk lk, fun z => absurd z nz⟩
      unfold lineF at K
      cases hb : bodyF T N r.1 r.2 with
      | inl ee =>
        rw [hb] at B2 K
        exact m_clos_f (e := ee) (by omega) hs w2 B2 (fun g3 w3 f3 o3 => ⟨rfl, w3, f111 g3 ee w3 (F2.trans f3) o3 K⟩)
      | inr z =>
        rw [hb] at B2 K
        obtain ⟨o2, x2⟩ : okM g2 T N z.2 ∧ rwM g2 z.1.1 := B2
        obtain ⟨i1, i2, i3⟩ := body_I hT tN h2 I hb
        have z0 := i1.1.2.2.2.2.2.2.2.2.2.2.2.2.1
        refine m_clos (r := z) (by omega) hs w2 (t0.fr2 F2) o2 x2 (by omega) (fun g3 w3 f3 B3 => ⟨rfl, w3, ?_⟩)
        have F3 := F2.trans f3
        simp only [eB] at K
        cases hc : closF T N z with
        | inl ee =>
          rw [hc] at B3 K
          exact f111 g3 ee w3 F3 B3 K
        | inr u =>
          rw [hc] at B3 K
          obtain ⟨o3, x3⟩ : okM g3 T N u.2 ∧ rwM g3 u.1.1 := B3
          obtain ⟨j1, j2, j3⟩ := clos_I tN i3 i1 hc
          exact ih u g3 (by omega) j3 j1 w3 F3 o3 x3 K
theorem k_Mhouse {tp : Int} (hs : am_sc scr) (hw : wf h) (hT : ∀ k, 0 ≤ T k ∧ T k < 256) (e5 : h.2.2.2 109 5 = tp) (htp : 0 ≤ tp ∧ tp ≤ 900) (h112 : ∀ k : Nat, (k : Int) < tp → h.2.2.2 112 k = T k) (H0 : ¬ (0 ≤ x1 ∧ x1 ≤ tp) → Q (some (.inl (-3))) (am_put h 109 0 0)) (H1 : 0 ≤ x1 ∧ x1 ≤ tp → ∀ g, wf g → fr [110, 113] hoF h g → hoP h g (textF T x1.toNat) → Q (some (.inl (hoA (textF T x1.toNat)))) g) : am_R (am_prog scr) (d + 61) f_M_house 0 [some (.inr (.inr ((109 : Nat) : Int))), some (.inl (x1)), none] [] h Q := by
  refine w_M_house_0 hs hw (fun h1 q1 => ?_)
  have w1 : wf h1 := by rw [q1]; exact hw.put np_109_0
  have e51 : h1.2.2.2 109 5 = tp := by rw [q1, put_ne (by omega)]; exact e5
  rw [e51]
  refine k_within hs w1 ⟨_, rfl, w1, fun c => ?_, fun c => ?_⟩
  rotate_left
  · rw [q1]; exact H0 (ite10.mp c)
  have cx := yes10 c
  have H1 := H1 cx
  intro h4 q4 h5 q5 h6 q6 h7 q7
  obtain ⟨N, hN⟩ : ∃ N : Nat, x1 = (N : Int) := ⟨x1.toNat, by omega⟩
  have eN : x1.toNat = N := by omega
  rw [eN] at H1
  have N9 : N ≤ 900 := by omega
  have w7 : wf h7 := by rw [q7, q6, q5, q4]; exact (((w1.put np_109_8).put np_109_5).put np_109_7).put np_109_11
  have f7 : fr [] [(109, 0), (109, 5), (109, 7), (109, 8), (109, 11)] h h7 := by rw [q7, q6, q5, q4, q1]; exact ((((fr.rfl.put (Or.inr (by decide))).put (Or.inr (by decide))).put (Or.inr (by decide))).put (Or.inr (by decide))).put (Or.inr (by decide))
  have v8 : h7.2.2.2 109 8 = (N : Int) := by rw [q7, put_ne (by omega), q6, put_ne (by omega), q5, put_ne (by omega), q4, put_eq, hN]
  have v5 : h7.2.2.2 109 5 = 0 := by rw [q7, put_ne (by omega), q6, put_ne (by omega), q5, put_eq]
  have v7 : h7.2.2.2 109 7 = 0 := by rw [q7, put_ne (by omega), q6, put_eq]
  have v11 : h7.2.2.2 109 11 = 0 := by rw [q7, put_eq]
  refine m_plain hs w7 (fun g8 w8 f8 r8 => ⟨rfl, w8, ?_⟩)
  have t8 : teM g8 T N := ⟨N9, by rw [f8.f 109 8 (by decide) (by simp)]; exact v8, fun k hk => by rw [f8.c 112 (by decide) (by simp), f7.c 112 (by simp) (by decide)]; exact h112 k (by omega), hT⟩
  have x8 : rwM g8 row0 := fun j hj => r8 j (by have : row0 211 = 0 := rfl; rw [this] at hj; omega)
  -- behind all, from 138 on
  have s138 : ∀ g, wf g → fr [113] RMF g8 g → EM g (textF T N) → am_R (am_prog scr) (d + 61) f_M_house 138 [some (.inr (.inr ((109 : Nat) : Int))), some (.inl (x1)), none] [] g Q := by
    intro g wg fg E
    have F : fr [110, 113] hoF h g := (f7.mono (by simp) (by decide)).trans ((f8.mono (by simp) (by simp)).trans (fg.mono (by simp) (by decide)))
    refine m_h138 hs wg E (fun ds hd => ?_) (fun g2 w2 f2 P => ?_)
    · obtain ⟨p, p1, p2⟩ := text_I hT N9 hd
      exact ⟨p, by omega, p2⟩
    · refine H1 g2 w2 (F.trans (f2.mono (by simp) (by decide))) ⟨?_, ?_⟩
      · rw [f2.f 109 5 (by decide) (by decide), fg.f 109 5 (by decide) (by decide), f8.f 109 5 (by decide) (by simp)]; exact v5
      · have e110 : g.2.2.2 110 = h.2.2.2 110 := by rw [fg.c 110 (by decide) (by decide), f8.c 110 (by decide) (by simp), f7.c 110 (by simp) (by decide)]
        rw [e110] at P
        exact P
  -- the first token
  refine am_R.to (d := d + 54 + 6) (by omega) (k_next hs w8 t8 (p := 0) (by rw [f8.f 109 7 (by decide) (by simp)]; exact v7) (by omega) (fun g9 w9 f9 a6 a7 a9 a10 => ⟨rfl, w9, ?_⟩))
  have F9 : fr [113] RMF g8 g9 := f9.mono (by simp) (by decide)
  have o9 : okM g9 T N 0 := ⟨⟨by omega, a6, a7, a9, fun z => by rw [a10]; exact (tkN_b hT z).2⟩, by rw [f9.f 109 11 (by simp) (by decide), f8.f 109 11 (by decide) (by simp)]; exact v11⟩
  have x9 : rwM g9 row0 := x8.of (f9.c 113 (by simp) (by decide))
  -- faulted: to 138
  have fl : ∀ (k : am_H) (ee : PE), wf k → fr [113] RMF g8 k → flM k ee → (∀ g, wf g → fr [113] RMF g8 g → flM g ee → am_R (am_prog scr) (d + 61) f_M_house 138 [some (.inr (.inr ((109 : Nat) : Int))), some (.inl (x1)), none] [] g Q) → am_R (am_prog scr) (d + 61) f_M_house 111 [some (.inr (.inr ((109 : Nat) : Int))), some (.inl (x1)), none] [] k Q := by
    intro k ee wk fk lk KK
    have nz : k.2.2.2 109 11 ≠ 0 := by rw [lk.1]; exact lk.2.1
    exact w_M_house_111 hs wk ⟨fun _ => KK k wk fk lk, fun z => absurd z nz⟩
  have s138f : ∀ ee : PE, textF T N = .inl ee → ∀ g, wf g → fr [113] RMF g8 g → flM g ee → am_R (am_prog scr) (d + 61) f_M_house 138 [some (.inr (.inr ((109 : Nat) : Int))), some (.inl (x1)), none] [] g Q := fun ee he g wg fg lg => s138 g wg fg (by rw [he]; exact lg)
  have f66 : ∀ (k : am_H) (ee : PE), wf k → fr [113] RMF g8 k → flM k ee → textF T N = .inl ee → am_R (am_prog scr) (d + 61) f_M_house 66 [some (.inr (.inr ((109 : Nat) : Int))), some (.inl (x1)), none] [] k Q := by
    intro k ee wk fk lk he
    refine w_M_house_66 hs wk (m_named_f (e := ee) (by omega) hs wk lk (fun v => ⟨_, rfl, wk, fun h3 q3 => ?_⟩))
    have w3 : wf h3 := by rw [q3]; exact wk.p113
    have l3 : flM h3 ee := by rw [q3]; exact lk.p113
    refine m_named_f (e := ee) (by omega) hs w3 l3 (fun v => ⟨_, rfl, w3, fun h6 q6 => ?_⟩)
    have w6 : wf h6 := by rw [q6]; exact w3.p113
    have l6 : flM h6 ee := by rw [q6]; exact l3.p113
    refine m_named_f (e := ee) (by omega) hs w6 l6 (fun v => ⟨_, rfl, w6, fun h9 q9 => ?_⟩)
    have w9 : wf h9 := by rw [q9]; exact w6.p113
    have l9 : flM h9 ee := by rw [q9]; exact l6.p113
    refine m_clos_f (e := ee) (by omega) hs w9 l9 (fun g wg fg lg => ⟨rfl, wg, fl g ee wg ?_ lg (s138f ee he)⟩)
    refine fr.trans ?_ fg
    rw [q9, q6, q3]
    exact f113 (f113 (f113 fk))
  unfold textF at s138 s138f f66
  rw [headF_e] at s138 s138f f66
  refine m_eats (by omega) hs w9 (t8.fr2 F9) o9 (fun q g10 w10 f10 o10 e10 => ⟨_, rfl, w10, fun _ => ?_, fun c => absurd c (by omega)⟩) (fun q => ⟨_, rfl, w9, fun c => absurd rfl c, fun _ => ?_⟩)
  rotate_left
  · have hq : wN T N 0 0 = .inl (eF T N 0 2) := by unfold wN; rw [if_neg q]
    exact m_fails hs w9 o9 (by omega) (fun g wg fg lg => ⟨rfl, wg, f66 g _ wg (F9.trans (fg.mono (by simp) (by decide))) lg (by rw [hq]; rfl)⟩)
  have hq : wN T N 0 0 = .inr (tkE T N 0) := by unfold wN; rw [if_pos q]
  rw [hq] at s138 s138f
  simp only [eB] at s138 s138f
  have F10 := F9.trans f10
  have x10 := x9.of e10
  clear f66
  generalize tkE T N 0 = p1 at *
  -- faulted in the head
  have f3 : ∀ (k : am_H) (ee : PE), wf k → fr [113] RMF g8 k → flM k ee → (∀ g, wf g → fr [113] RMF g8 g → flM g ee → am_R (am_prog scr) (d + 61) f_M_house 138 [some (.inr (.inr ((109 : Nat) : Int))), some (.inl (x1)), none] [] g Q) → am_R (am_prog scr) (d + 60) f_M_closes 0 [some (.inr (.inr ((109 : Nat) : Int)))] [] k (fun v g10 => v = none ∧ wf g10 ∧ (am_R (am_prog scr) (d + 61) f_M_house 111 [some (.inr (.inr ((109 : Nat) : Int))), some (.inl (x1)), none] [] g10 Q)) := by
    intro k ee wk fk lk KK
    exact m_clos_f (e := ee) (by omega) hs wk lk (fun g wg fg lg => ⟨rfl, wg, fl g ee wg (fk.trans fg) lg KK⟩)
  have f2 : ∀ (k : am_H) (ee : PE), wf k → fr [113] RMF g8 k → flM k ee → (∀ g, wf g → fr [113] RMF g8 g → flM g ee → am_R (am_prog scr) (d + 61) f_M_house 138 [some (.inr (.inr ((109 : Nat) : Int))), some (.inl (x1)), none] [] g Q) → am_R (am_prog scr) (d + 60) f_M_named 0 [some (.inr (.inr ((109 : Nat) : Int))), some (.inl (3)), some (.inl (1)), some (.inl (4))] [] k (fun v g7 => ∃ r8, v = some (.inl r8) ∧ wf g7 ∧ (∀ h9 : am_H, h9 = am_put g7 113 3 r8 → (am_R (am_prog scr) (d + 60) f_M_closes 0 [some (.inr (.inr ((109 : Nat) : Int)))] [] h9 (fun v g10 => v = none ∧ wf g10 ∧ (am_R (am_prog scr) (d + 61) f_M_house 111 [some (.inr (.inr ((109 : Nat) : Int))), some (.inl (x1)), none] [] g10 Q))))) := by
    intro k ee wk fk lk KK
    refine m_named_f (e := ee) (by omega) hs wk lk (fun v => ⟨_, rfl, wk, fun h9 q9 => ?_⟩)
    rw [q9]
    exact f3 _ ee wk.p113 (f113 fk) lk.p113 KK
  have f1 : ∀ (k : am_H) (ee : PE), wf k → fr [113] RMF g8 k → flM k ee → (∀ g, wf g → fr [113] RMF g8 g → flM g ee → am_R (am_prog scr) (d + 61) f_M_house 138 [some (.inr (.inr ((109 : Nat) : Int))), some (.inl (x1)), none] [] g Q) → am_R (am_prog scr) (d + 60) f_M_named 0 [some (.inr (.inr ((109 : Nat) : Int))), some (.inl (2)), some (.inl (1)), some (.inl (6))] [] k (fun v g4 => ∃ r5, v = some (.inl r5) ∧ wf g4 ∧ (∀ h6 : am_H, h6 = am_put g4 113 2 r5 → (am_R (am_prog scr) (d + 60) f_M_named 0 [some (.inr (.inr ((109 : Nat) : Int))), some (.inl (3)), some (.inl (1)), some (.inl (4))] [] h6 (fun v g7 => ∃ r8, v = some (.inl r8) ∧ wf g7 ∧ (∀ h9 : am_H, h9 = am_put g7 113 3 r8 → (am_R (am_prog scr) (d + 60) f_M_closes 0 [some (.inr (.inr ((109 : Nat) : Int)))] [] h9 (fun v g10 => v = none ∧ wf g10 ∧ (am_R (am_prog scr) (d + 61) f_M_house 111 [some (.inr (.inr ((109 : Nat) : Int))), some (.inl (x1)), none] [] g10 Q)))))))) := by
    intro k ee wk fk lk KK
    refine m_named_f (e := ee) (by omega) hs wk lk (fun v => ⟨_, rfl, wk, fun h9 q9 => ?_⟩)
    rw [q9]
    exact f2 _ ee wk.p113 (f113 fk) lk.p113 KK
  refine w_M_house_66 hs w10 (m_named (by omega) hs w10 (t8.fr2 F10) o10 (fun z hz g w f o e => ⟨_, rfl, w, fun h3 q3 => ?_⟩) (fun ee he g v w f o e => ⟨_, rfl, w, fun h3 q3 => ?_⟩))
  rotate_left
  · rw [q3]
    refine f1 _ ee w.p113 (f113 (F10.trans f)) o.p113 (s138f ee ?_)
    have : nmF T N p1 1 1 6 = .inl ee := he
    rw [this]
  have hz : nmF T N p1 1 1 6 = .inr z := hz
  rw [hz] at s138 s138f
  simp only at s138 s138f
  have x3 : rwM h3 (up row0 1 z.1) := by rw [q3]; exact (x10.of e).put (by omega)
  have F3 : fr [113] RMF g8 h3 := by rw [q3]; exact f113 (F10.trans f)
  have w3 : wf h3 := by rw [q3]; exact w.p113
  have o3 : okM h3 T N z.2 := by rw [q3]; exact o.p113
  clear f1
  refine m_named (by omega) hs w3 (t8.fr2 F3) o3 (fun z2 hz2 g w f o e => ⟨_, rfl, w, fun h6 q6 => ?_⟩) (fun ee he g v w f o e => ⟨_, rfl, w, fun h6 q6 => ?_⟩)
  rotate_left
  · rw [q6]
    refine f2 _ ee w.p113 (f113 (F3.trans f)) o.p113 (s138f ee ?_)
    have : nmF T N z.2 2 1 6 = .inl ee := he
    rw [this]
  have hz2 : nmF T N z.2 2 1 6 = .inr z2 := hz2
  rw [hz2] at s138 s138f
  simp only at s138 s138f
  have x6 : rwM h6 (up (up row0 1 z.1) 2 z2.1) := by rw [q6]; exact (x3.of e).put (by omega)
  have F6 : fr [113] RMF g8 h6 := by rw [q6]; exact f113 (F3.trans f)
  have w6 : wf h6 := by rw [q6]; exact w.p113
  have o6 : okM h6 T N z2.2 := by rw [q6]; exact o.p113
  clear f2
  refine m_named (by omega) hs w6 (t8.fr2 F6) o6 (fun z3 hz3 g w f o e => ⟨_, rfl, w, fun h9 q9 => ?_⟩) (fun ee he g v w f o e => ⟨_, rfl, w, fun h9 q9 => ?_⟩)
  rotate_left
  · rw [q9]
    refine f3 _ ee w.p113 (f113 (F6.trans f)) o.p113 (s138f ee ?_)
    have : nmF T N z2.2 3 1 4 = .inl ee := he
    rw [this]
  have hz3 : nmF T N z2.2 3 1 4 = .inr z3 := hz3
  rw [hz3] at s138 s138f
  simp only at s138 s138f
  have x9 : rwM h9 (up (up (up row0 1 z.1) 2 z2.1) 3 z3.1) := by rw [q9]; exact (x6.of e).put (by omega)
  have F9 : fr [113] RMF g8 h9 := by rw [q9]; exact f113 (F6.trans f)
  have w9 : wf h9 := by rw [q9]; exact w.p113
  have o9 : okM h9 T N z3.2 := by rw [q9]; exact o.p113
  clear f3
  have hd : headF T N = closF T N ((up (up (up row0 1 z.1) 2 z2.1) 3 z3.1, ds0.2), z3.2) := by
    rw [headF_e, hq]
    simp only [eB]
    rw [hz]
    simp only
    rw [hz2]
    simp only
    rw [hz3]
  refine m_clos (r := ((up (up (up row0 1 z.1) 2 z2.1) 3 z3.1, ds0.2), z3.2)) (by omega) hs w9 (t8.fr2 F9) o9 x9 (by have : (up (up (up row0 1 z.1) 2 z2.1) 3 z3.1) 0 = 0 := rfl; simp only; omega) (fun g10 w10 f10 B10 => ⟨rfl, w10, ?_⟩)
  have F10' := F9.trans f10
  cases hc : closF T N ((up (up (up row0 1 z.1) 2 z2.1) 3 z3.1, ds0.2), z3.2) with
  | inl ee =>
    rw [hc] at B10 s138f
    exact fl g10 ee w10 F10' B10 (s138f ee rfl)
  | inr u =>
    rw [hc] at B10 s138
    obtain ⟨ou, xu⟩ : okM g10 T N u.2 ∧ rwM g10 u.1.1 := B10
    obtain ⟨i1, i2⟩ := head_I hT (hd.trans hc)
    exact m_lines hs t8 900 u g10 (by have := i1.1.2.2.2.2.2.2.2.2.2.2.2.2.2.2; omega) i2 i1 w10 F10' ou xu s138
end HO
