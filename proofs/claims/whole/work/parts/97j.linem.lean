/-! a text's lines: the reference -/
def rwM (h : am_H) (a : Nat → Int) : Prop := ∀ j, j < 212 + (a 211).toNat → h.2.2.2 113 j = a j
def BM (T : Nat → Int) (N : Nat) (g : am_H) (r : PE ⊕ (DS × Nat)) : Prop := match r with
  | .inl e => flM g e
  | .inr z => okM g T N z.2 ∧ rwM g z.1.1
theorem rwM.put {h : am_H} {a : Nat → Int} {k : Nat} {v : Int} (x : rwM h a) (hk : k ≠ 211) : rwM (am_put h 113 k v) (up a k v) := by
  intro j hj
  rw [up_ne (show 211 ≠ k by omega)] at hj
  by_cases c : j = k
  · subst c; rw [put_eq, up_eq]
  · rw [put_ne (by omega), up_ne c]; exact x j hj
theorem rwM.of {h g : am_H} {a : Nat → Int} (x : rwM h a) (e : g.2.2.2 113 = h.2.2.2 113) : rwM g a := fun j hj => by rw [e]; exact x j hj
section LM
variable {scr : Nat × (Nat → Int)} {d : Nat} {h : am_H} {Q : Option am_V → am_H → Prop} {T : Nat → Int} {N p D : Nat} {e : PE} {ds : DS}
theorem okM.p113 {k : Nat} {v : Int} (o : okM h T N p) : okM (am_put h 113 k v) T N p := by
  unfold okM cuM at *
  rw [put_c (show 109 ≠ 113 by omega)]; exact o
theorem flM.p113 {k : Nat} {v : Int} (o : flM h e) : flM (am_put h 113 k v) e := by
  unfold flM at *
  rw [put_c (show 109 ≠ 113 by omega)]; exact o
theorem f113 {k : Nat} {v : Int} {g : am_H} (f : fr [113] RMF h g) : fr [113] RMF h (am_put g 113 k v) := f.put (Or.inl (by decide))
theorem wf.p113 {k : Nat} {v : Int} (w : wf h) : wf (am_put h 113 k v) := w.pa (by decide +kernel)
theorem m_takes {lo hi : Int} (hD : 7 ≤ D) (hs : am_sc scr) (hw : wf h) (t : teM h T N) (o : okM h T N p) (H1 : ∀ z, nN T N p lo hi = .inr z → ∀ g, wf g → fr [113] RMF h g → okM g T N z.2 → g.2.2.2 113 = h.2.2.2 113 → Q (some (.inl (z.1))) g) (H2 : ∀ e, nN T N p lo hi = .inl e → ∀ g v, wf g → fr [113] RMF h g → flM g e → g.2.2.2 113 = h.2.2.2 113 → Q (some (.inl (v))) g) : am_R (am_prog scr) D f_M_takes 0 [some (.inr (.inr ((109 : Nat) : Int))), some (.inl (lo)), some (.inl (hi)), none] [] h Q := by
  obtain ⟨D, rfl⟩ : ∃ d, D = d + 1 := ⟨D - 1, by omega⟩
  unfold nN at H1 H2
  have fl : ∀ (k : Int), k ≠ 0 → (∀ g v, wf g → fr [113] RMF h g → flM g (eF T N p k) → g.2.2.2 113 = h.2.2.2 113 → Q (some (.inl (v))) g) → am_R (am_prog scr) D f_M_fails 0 [some (.inr (.inr ((109 : Nat) : Int))), some (.inl (k))] [] h (fun v g5 => v = none ∧ wf g5 ∧ (am_R (am_prog scr) (D + 1) f_M_takes 37 [some (.inr (.inr ((109 : Nat) : Int))), some (.inl (lo)), some (.inl (hi)), none] [] g5 Q)) := by
    intro k hk K
    refine m_fails hs hw o hk (fun g wg fg og => ⟨rfl, wg, ?_⟩)
    have nz : g.2.2.2 109 11 ≠ 0 := by rw [og.1]; exact og.2.1
    exact w_M_takes_37 hs wg (fun y1 _ => ⟨fun _ => K g y1 wg (fg.mono (by simp) (by decide)) og (fg.c 113 (by simp) (by decide)), fun z => absurd z nz⟩)
  refine w_M_takes_0 hs hw (m_is hs hw o ⟨_, rfl, hw, fun c => ?_, fun c => ?_⟩)
  · have q := yes10 c
    rw [o.1.2.2.2.2 q]
    rw [if_pos q] at H1 H2
    refine k_within hs hw ⟨_, rfl, hw, fun c2 => ?_, fun c2 => ?_⟩
    · have q2 := yes10 c2
      rw [if_pos q2] at H1
      refine w_M_takes_37 hs hw (fun y1 h1 => ⟨fun z => absurd o.2 z, fun _ => ?_⟩)
      rw [o.1.2.2.2.2 q] at h1
      subst h1
      exact m_next (by omega) hs hw t o (fun g wg fg og eg => ⟨rfl, wg, H1 _ rfl g wg fg og eg⟩)
    · have q2 := ite10.mp c2
      rw [if_neg q2] at H2
      exact fl 3 (by omega) (H2 _ rfl)
  · have q := ite10.mp c
    rw [if_neg q] at H2
    exact fl 2 (by omega) (H2 _ rfl)
theorem m_takes_f {lo hi : Int} (hD : 7 ≤ D) (hs : am_sc scr) (hw : wf h) (o : flM h e) (H : ∀ v, Q (some (.inl (v))) h) : am_R (am_prog scr) D f_M_takes 0 [some (.inr (.inr ((109 : Nat) : Int))), some (.inl (lo)), some (.inl (hi)), none] [] h Q := by
  obtain ⟨D, rfl⟩ : ∃ d, D = d + 1 := ⟨D - 1, by omega⟩
  have nz : h.2.2.2 109 11 ≠ 0 := by rw [o.1]; exact o.2.1
  refine w_M_takes_0 hs hw (m_is_f hs hw o ⟨_, rfl, hw, fun c => absurd rfl c, fun _ => ?_⟩)
  refine m_fails_f hs hw o ⟨rfl, hw, ?_⟩
  exact w_M_takes_37 hs hw (fun y1 _ => ⟨fun _ => H y1, fun z => absurd z nz⟩)
theorem m_named {k lo hi : Int} (hD : 8 ≤ D) (hs : am_sc scr) (hw : wf h) (t : teM h T N) (o : okM h T N p) (H1 : ∀ z, eB (wN T N p k) (fun p => nN T N p lo hi) = .inr z → ∀ g, wf g → fr [113] RMF h g → okM g T N z.2 → g.2.2.2 113 = h.2.2.2 113 → Q (some (.inl (z.1))) g) (H2 : ∀ e, eB (wN T N p k) (fun p => nN T N p lo hi) = .inl e → ∀ g v, wf g → fr [113] RMF h g → flM g e → g.2.2.2 113 = h.2.2.2 113 → Q (some (.inl (v))) g) : am_R (am_prog scr) D f_M_named 0 [some (.inr (.inr ((109 : Nat) : Int))), some (.inl (k)), some (.inl (lo)), some (.inl (hi))] [] h Q := by
  obtain ⟨D, rfl⟩ : ∃ d, D = d + 1 := ⟨D - 1, by omega⟩
  unfold wN at H1 H2
  refine w_M_named_0 hs hw (m_eats (by omega) hs hw t o (fun q g wg fg og eg => ⟨_, rfl, wg, fun _ => ?_, fun c => absurd c (by omega)⟩) (fun q => ⟨_, rfl, hw, fun c => absurd rfl c, fun _ => ?_⟩))
  · rw [if_pos q] at H1 H2
    exact m_takes (by omega) hs wg (t.fr2 fg) og (fun z hz g2 w2 f2 o2 e2 => ⟨_, rfl, w2, H1 z hz g2 w2 (fg.trans f2) o2 (e2.trans eg)⟩) (fun e he g2 v w2 f2 o2 e2 => ⟨_, rfl, w2, H2 e he g2 v w2 (fg.trans f2) o2 (e2.trans eg)⟩)
  · rw [if_neg q] at H2
    refine m_fails hs hw o (by omega) (fun g wg fg og => ⟨rfl, wg, ?_⟩)
    exact m_takes_f (by omega) hs wg og (fun v => ⟨_, rfl, wg, H2 _ rfl g v wg (fg.mono (by simp) (by decide)) og (fg.c 113 (by simp) (by decide))⟩)
theorem m_named_f {k lo hi : Int} (hD : 8 ≤ D) (hs : am_sc scr) (hw : wf h) (o : flM h e) (H : ∀ v, Q (some (.inl (v))) h) : am_R (am_prog scr) D f_M_named 0 [some (.inr (.inr ((109 : Nat) : Int))), some (.inl (k)), some (.inl (lo)), some (.inl (hi))] [] h Q := by
  obtain ⟨D, rfl⟩ : ∃ d, D = d + 1 := ⟨D - 1, by omega⟩
  refine w_M_named_0 hs hw (m_eats_f (by omega) hs hw o ⟨_, rfl, hw, fun c => absurd rfl c, fun _ => ?_⟩)
  exact m_fails_f hs hw o ⟨rfl, hw, m_takes_f (by omega) hs hw o (fun v => ⟨_, rfl, hw, H v⟩)⟩
theorem m_clos {r : DS × Nat} (hD : 8 ≤ D) (hs : am_sc scr) (hw : wf h) (t : teM h T N) (o : okM h T N r.2) (x : rwM h r.1.1) (h0 : 0 ≤ r.1.1 0 ∧ r.1.1 0 ≤ 1000) (H : ∀ g, wf g → fr [113] RMF h g → BM T N g (closF T N r) → Q none g) : am_R (am_prog scr) D f_M_closes 0 [some (.inr (.inr ((109 : Nat) : Int)))] [] h Q := by
  obtain ⟨D, rfl⟩ : ∃ d, D = d + 1 := ⟨D - 1, by omega⟩
  unfold closF wN at H
  refine w_M_closes_0 hs hw (m_eats (by omega) hs hw t o (fun q g wg fg og eg => ⟨_, rfl, wg, fun _ h3 q3 => ?_, fun c => absurd c (by omega)⟩) (fun q => ⟨_, rfl, hw, fun c => absurd rfl c, fun _ => ?_⟩))
  · rw [if_pos q] at H
    have e0 : g.2.2.2 113 0 = r.1.1 0 := by rw [eg]; exact x 0 (by omega)
    rw [e0, am_w_id (by omega) (by omega)] at q3
    rw [q3]
    exact H _ wg.p113 (f113 fg) ⟨og.p113, (x.of eg).put (by omega)⟩
  · rw [if_neg q] at H
    refine m_fails hs hw o (by omega) (fun g wg fg og => ⟨rfl, wg, fun h5 q5 => ?_⟩)
    rw [q5]
    exact H _ wg.p113 (f113 (fg.mono (by simp) (by decide))) og.p113
theorem m_clos_f (hD : 8 ≤ D) (hs : am_sc scr) (hw : wf h) (o : flM h e) (H : ∀ g, wf g → fr [113] RMF h g → flM g e → Q none g) : am_R (am_prog scr) D f_M_closes 0 [some (.inr (.inr ((109 : Nat) : Int)))] [] h Q := by
  obtain ⟨D, rfl⟩ : ∃ d, D = d + 1 := ⟨D - 1, by omega⟩
  refine w_M_closes_0 hs hw (m_eats_f (by omega) hs hw o ⟨_, rfl, hw, fun c => absurd rfl c, fun _ => m_fails_f hs hw o ⟨rfl, hw, fun h5 q5 => ?_⟩⟩)
  rw [q5]
  exact H _ hw.p113 (f113 fr.rfl) o.p113
theorem m_told {b : Int} {a : Nat → Int} (hs : am_sc scr) (hw : wf h) (x : rwM h a) (ha : 0 ≤ a 4 ∧ a 4 ≤ 6) (H : Q (some (.inl (btL a b 6 0))) h) : am_R (am_prog scr) D f_M_isBedTold 0 [some (.inr (.inr ((109 : Nat) : Int))), some (.inl (b)), none] [] h Q := by
  refine w_M_isBedTold_0 hs hw ?_
  generalize hK : btL a b 6 0 = KK at H
  have lp : ∀ (m s : Nat), s + m = 6 → btL a b m s = KK → am_R (am_prog scr) D f_M_isBedTold 2 [some (.inr (.inr ((109 : Nat) : Int))), some (.inl (b)), some (.inl ((s : Int)))] [] h Q := by
    intro m
    induction m with
    | zero =>
      intro s hs6 hb
      refine w_M_isBedTold_2 hs hw ?_
      rw [x 4 (by omega)]
      refine ⟨fun _ => ?_, fun c => by omega⟩
      rw [← hb] at H; exact H
    | succ m ih =>
      intro s hs6 hb
      simp only [btL] at hb
      refine w_M_isBedTold_2 hs hw ?_
      rw [x 4 (by omega), am_w_id (by omega) (by omega), show ((16 : Int) + (s : Int)).toNat = 16 + s by omega, x (16 + s) (by omega)]
      refine ⟨fun c => ?_, fun c => ⟨by omega, fun c2 y2 h2 => ?_, fun c2 => ?_⟩⟩
      · rw [if_neg c] at hb
        rw [← hb] at H; exact H
      · rw [if_pos c, if_neg c2] at hb
        rw [am_w_id (by omega) (by omega)] at h2
        obtain rfl : y2 = ((s + 1 : Nat) : Int) := by omega
        exact ih (s + 1) (by omega) hb
      · rw [if_pos c, if_pos c2] at hb
        rw [← hb] at H; exact H
  exact lp 6 0 (by omega) hK
end LM
