/-! reading: the reference -/
def cuM (h : am_H) (T : Nat → Int) (N p : Nat) : Prop := p ≤ N ∧ h.2.2.2 109 6 = (tkS T N p : Int) ∧ h.2.2.2 109 7 = (tkE T N p : Int) ∧ h.2.2.2 109 9 = tkK T N p ∧ (tkK T N p = 25 → h.2.2.2 109 10 = tkN T N p 0)
def okM (h : am_H) (T : Nat → Int) (N p : Nat) : Prop := cuM h T N p ∧ h.2.2.2 109 11 = 0
def flM (h : am_H) (e : Int × Int) : Prop := h.2.2.2 109 11 = e.1 ∧ e.1 ≠ 0 ∧ h.2.2.2 109 12 = e.2
def RMF : List (Nat × Nat) := [(109, 6), (109, 7), (109, 9), (109, 10), (109, 11), (109, 12)]
abbrev frM (h g : am_H) : Prop := fr [113] RMF h g
/-- codes that were added behind n others -/
def dM (h g : am_H) (n : Nat) (r : List Int) : Prop := g.2.2.2 113 211 = ((n + r.length : Nat) : Int) ∧ (∀ j, j < r.length → g.2.2.2 113 (212 + n + j) = r.getD j 0) ∧ ∀ j, j < 211 ∨ (212 ≤ j ∧ j < 212 + n) → g.2.2.2 113 j = h.2.2.2 113 j
def PM (T : Nat → Int) (N : Nat) (h g : am_H) (n : Nat) (r : PR) : Prop := match r with
  | .inl e => flM g e
  | .inr x => okM g T N x.1 ∧ dM h g n x.2.1
theorem dM.app {h g k : am_H} {n : Nat} {r s : List Int} (a : dM h g n r) (b : dM g k (n + r.length) s) : dM h k n (r ++ s) := by
  obtain ⟨a1, a2, a3⟩ := a
  obtain ⟨b1, b2, b3⟩ := b
  refine ⟨by rw [b1, List.length_append]; omega, fun j hj => ?_, fun j hj => by rw [b3 j (by omega), a3 j hj]⟩
  rw [List.length_append] at hj
  rcases Nat.lt_or_ge j r.length with q | q
  · rw [b3 _ (by omega), a2 j q, List.getD_eq_getElem?_getD, List.getD_eq_getElem?_getD, List.getElem?_append_left q]
  · have := b2 (j - r.length) (by omega)
    rw [show 212 + (n + r.length) + (j - r.length) = 212 + n + j by omega] at this
    rw [this, List.getD_eq_getElem?_getD, List.getD_eq_getElem?_getD, List.getElem?_append_right q]
theorem dM.of {h k g : am_H} {n : Nat} {r : List Int} (a : dM h g n r) (e : k.2.2.2 113 = h.2.2.2 113) : dM k g n r := ⟨a.1, a.2.1, fun j hj => by rw [a.2.2 j hj, e]⟩
theorem dM.to {h k g : am_H} {n : Nat} {r : List Int} (a : dM h g n r) (e : k.2.2.2 113 = g.2.2.2 113) : dM h k n r := ⟨by rw [e]; exact a.1, fun j hj => by rw [e]; exact a.2.1 j hj, fun j hj => by rw [e]; exact a.2.2 j hj⟩
theorem dM.nil {h : am_H} {n : Nat} (e : h.2.2.2 113 211 = (n : Int)) : dM h h n [] := ⟨by simpa using e, fun j hj => by simp at hj, fun _ _ => rfl⟩
section RM
variable {scr : Nat × (Nat → Int)} {d : Nat} {h : am_H} {Q : Option am_V → am_H → Prop} {T : Nat → Int} {N p n D : Nat} {e : Int × Int}
theorem teM.fr2 {g : am_H} (t : teM h T N) (q : frM h g) : teM g T N := by
  obtain ⟨t1, t2, t3, t4⟩ := t
  refine ⟨t1, by rw [q.f 109 8 (by simp) (by decide)]; exact t2, fun k hk => by rw [q.c 112 (by simp) (by decide)]; exact t3 k hk, t4⟩
theorem m_next (hD : 6 ≤ D) (hs : am_sc scr) (hw : wf h) (t : teM h T N) (o : okM h T N p) (H : ∀ g, wf g → fr [113] RMF h g → okM g T N (tkE T N p) → g.2.2.2 113 = h.2.2.2 113 → Q none g) : am_R (am_prog scr) D f_M_next 0 [some (.inr (.inr ((109 : Nat) : Int))), none] [] h Q := by
  obtain ⟨⟨o1, o2, o3, o4, o5⟩, o6⟩ := o
  have b := tk_b (T := T) o1
  refine am_R.to (d := 0 + 6) (by omega) (k_next hs hw t o3 b.2.2.1 (fun g wg fg g6 g7 g9 g10 => ?_))
  refine H g wg (fg.mono (by simp) (by decide)) ⟨⟨b.2.2.1, g6, g7, g9, fun z => ?_⟩, ?_⟩ (fg.c 113 (by simp) (by decide))
  · rw [g10]; exact (tkN_b t.2.2.2 z).2
  · rw [fg.f 109 11 (by simp) (by decide)]; exact o6
theorem m_is {k : Int} (hs : am_sc scr) (hw : wf h) (o : okM h T N p) (H : Q (some (.inl (if tkK T N p = k then 1 else 0))) h) : am_R (am_prog scr) D f_M_is 0 [some (.inr (.inr ((109 : Nat) : Int))), some (.inl (k))] [] h Q := by
  obtain ⟨⟨o1, o2, o3, o4, o5⟩, o6⟩ := o
  refine w_M_is_0 hs hw ?_
  rw [o6, o4]
  refine ⟨fun c => absurd rfl c, fun _ => ⟨fun c => ?_, fun c => ?_⟩⟩
  · rw [if_neg c] at H; exact H
  · rw [if_pos c] at H; exact H
theorem m_is_f {k : Int} (hs : am_sc scr) (hw : wf h) (o : flM h e) (H : Q (some (.inl (0))) h) : am_R (am_prog scr) D f_M_is 0 [some (.inr (.inr ((109 : Nat) : Int))), some (.inl (k))] [] h Q := by
  obtain ⟨o1, o2, o3⟩ := o
  refine w_M_is_0 hs hw ?_
  rw [o1]
  exact ⟨fun _ => H, fun c => absurd c o2⟩
theorem m_eats {k : Int} (hD : 7 ≤ D) (hs : am_sc scr) (hw : wf h) (t : teM h T N) (o : okM h T N p) (H1 : tkK T N p = k → ∀ g, wf g → fr [113] RMF h g → okM g T N (tkE T N p) → g.2.2.2 113 = h.2.2.2 113 → Q (some (.inl (1))) g) (H2 : tkK T N p ≠ k → Q (some (.inl (0))) h) : am_R (am_prog scr) D f_M_eats 0 [some (.inr (.inr ((109 : Nat) : Int))), some (.inl (k))] [] h Q := by
  obtain ⟨D, rfl⟩ : ∃ d, D = d + 1 := ⟨D - 1, by omega⟩
  refine w_M_eats_0 hs hw (m_is hs hw o ⟨_, rfl, hw, fun c => ?_, fun c => ?_⟩)
  · have q : tkK T N p = k := by
      by_cases q : tkK T N p = k
      · exact q
      · rw [if_neg q] at c; exact absurd rfl c
    exact m_next (by omega) hs hw t o (fun g wg fg og e => ⟨rfl, wg, H1 q g wg fg og e⟩)
  · refine H2 (fun q => ?_)
    rw [if_pos q] at c; omega
theorem m_eats_f {k : Int} (hD : 7 ≤ D) (hs : am_sc scr) (hw : wf h) (o : flM h e) (H : Q (some (.inl (0))) h) : am_R (am_prog scr) D f_M_eats 0 [some (.inr (.inr ((109 : Nat) : Int))), some (.inl (k))] [] h Q := by
  obtain ⟨D, rfl⟩ : ∃ d, D = d + 1 := ⟨D - 1, by omega⟩
  exact w_M_eats_0 hs hw (m_is_f hs hw o ⟨_, rfl, hw, fun c => absurd rfl c, fun _ => H⟩)
theorem m_fails {k : Int} (hs : am_sc scr) (hw : wf h) (o : okM h T N p) (hk : k ≠ 0) (H : ∀ g, wf g → fr [] [(109, 11), (109, 12)] h g → flM g (if tkK T N p = 27 then 1 else k, (tkS T N p : Int)) → Q none g) : am_R (am_prog scr) D f_M_fails 0 [some (.inr (.inr ((109 : Nat) : Int))), some (.inl (k))] [] h Q := by
  obtain ⟨⟨o1, o2, o3, o4, o5⟩, o6⟩ := o
  refine w_M_fails_0 hs hw ?_
  rw [o6, o4]
  refine ⟨fun _ => ⟨fun c h1 q1 h2 q2 => ?_, fun c h1 q1 h2 q2 => ?_⟩, fun c => absurd rfl c⟩
  · rw [if_neg c] at H
    have e6 : h1.2.2.2 109 6 = (tkS T N p : Int) := by rw [q1, put_ne (by omega)]; exact o2
    rw [e6] at q2
    refine H h2 (by rw [q2, q1]; exact (hw.put np_109_11).put np_109_12) ?_ ⟨?_, hk, ?_⟩
    · rw [q2, q1]; exact (fr.rfl.put (Or.inr (by decide))).put (Or.inr (by decide))
    · rw [q2, put_ne (by omega), q1, put_eq]
    · rw [q2, put_eq]
  · rw [if_pos c] at H
    have e6 : h1.2.2.2 109 6 = (tkS T N p : Int) := by rw [q1, put_ne (by omega)]; exact o2
    rw [e6] at q2
    refine H h2 (by rw [q2, q1]; exact (hw.put np_109_11).put np_109_12) ?_ ⟨?_, by simp, ?_⟩
    · rw [q2, q1]; exact (fr.rfl.put (Or.inr (by decide))).put (Or.inr (by decide))
    · rw [q2, put_ne (by omega), q1, put_eq]
    · rw [q2, put_eq]
theorem m_fails_f {k : Int} (hs : am_sc scr) (hw : wf h) (o : flM h e) (H : Q none h) : am_R (am_prog scr) D f_M_fails 0 [some (.inr (.inr ((109 : Nat) : Int))), some (.inl (k))] [] h Q := by
  obtain ⟨o1, o2, o3⟩ := o
  refine w_M_fails_0 hs hw ?_
  rw [o1]
  exact ⟨fun c => absurd c o2, fun _ => H⟩
theorem m_codes {c : Int} (hs : am_sc scr) (hw : wf h) (o : okM h T N p) (e : h.2.2.2 113 211 = (n : Int)) (hn : n < 900) (H : ∀ g, wf g → fr [113] RMF h g → okM g T N p → dM h g n [c] → Q none g) : am_R (am_prog scr) D f_M_codes 0 [some (.inr (.inr ((109 : Nat) : Int))), some (.inl (c))] [] h Q := by
  refine w_M_codes_0 hs hw ?_
  rw [e, am_w_id (by omega) (by omega), show ((212 : Int) + (n : Int)).toNat = 212 + n by omega]
  refine ⟨fun _ => ⟨by omega, fun h2 q2 h3 q3 => ?_⟩, fun z => absurd o.2 z⟩
  have e2 : h2.2.2.2 113 211 = (n : Int) := by rw [q2, put_ne (by omega)]; exact e
  rw [e2, am_w_id (by omega) (by omega)] at q3
  have f3 : fr [113] [] h h3 := by rw [q3, q2]; exact (fr.rfl.put (Or.inl (by decide))).put (Or.inl (by decide))
  have c109 : h3.2.2.2 109 = h.2.2.2 109 := f3.c 109 (by decide) (by simp)
  refine H h3 (by rw [q3, q2]; exact (hw.pa (by decide +kernel)).pa (by decide +kernel)) (f3.mono (by simp) (by simp)) ?_ ⟨?_, fun j hj => ?_, fun j hj => ?_⟩
  · unfold okM cuM at *
    rw [c109]; exact o
  · rw [q3, put_eq]; simp
  · simp only [List.length_singleton] at hj
    obtain rfl : j = 0 := by omega
    rw [q3, put_ne (by omega), q2, Nat.add_zero, put_eq]
    rfl
  · rw [q3, put_ne (by omega), q2, put_ne (by omega)]
theorem m_codes_f {c : Int} (hs : am_sc scr) (hw : wf h) (o : flM h e) (H : Q none h) : am_R (am_prog scr) D f_M_codes 0 [some (.inr (.inr ((109 : Nat) : Int))), some (.inl (c))] [] h Q := by
  obtain ⟨o1, o2, o3⟩ := o
  refine w_M_codes_0 hs hw ?_
  rw [o1]
  exact ⟨fun c => absurd c o2, fun _ => H⟩
theorem m_goesIn {x : Int} (hD : 7 ≤ D) (hs : am_sc scr) (hw : wf h) (t : teM h T N) (o : okM h T N p) (H1 : x ≠ 6 → ∀ g, wf g → fr [113] RMF h g → okM g T N (tkE T N p) → g.2.2.2 113 = h.2.2.2 113 → Q (some (.inl (1))) g) (H2 : x = 6 → ∀ g, wf g → fr [113] RMF h g → flM g (if tkK T N p = 27 then 1 else 4, (tkS T N p : Int)) → Q (some (.inl (0))) g) : am_R (am_prog scr) D f_M_goesIn 0 [some (.inr (.inr ((109 : Nat) : Int))), some (.inl (x))] [] h Q := by
  obtain ⟨D, rfl⟩ : ∃ d, D = d + 1 := ⟨D - 1, by omega⟩
  refine w_M_goesIn_0 hs hw ⟨fun c => ?_, fun c => ?_⟩
  · refine w_M_goesIn_11 hs hw ⟨fun z => absurd o.2 z, fun _ => m_next (by omega) hs hw t o (fun g wg fg og e => ⟨rfl, wg, fun z => absurd og.2 z, fun _ => H1 c g wg fg og e⟩)⟩
  · refine m_fails hs hw o (by omega) (fun g wg fg og => ⟨rfl, wg, ?_⟩)
    have nz : g.2.2.2 109 11 ≠ 0 := by rw [og.1]; exact og.2.1
    exact w_M_goesIn_11 hs wg ⟨fun _ => ⟨fun _ => H2 c g wg (fg.mono (by simp) (by decide)) og, fun z => absurd z nz⟩, fun z => absurd z nz⟩
theorem m_wordOf {k : Int} (hs : am_sc scr) (hw : wf h) (H : Q (some (.inl (wdO k))) h) : am_R (am_prog scr) D f_M_wordOf 0 [some (.inr (.inr ((109 : Nat) : Int))), some (.inl (k))] [] h Q := by
  refine w_M_wordOf_0 hs hw ⟨fun c => ?_, fun c => ?_, fun c => ?_, fun c => ?_, fun c => ?_, fun c => ?_, fun c => ?_, fun c => ?_⟩
  · rw [c] at H; exact H
  · rw [c] at H; exact H
  · rw [c] at H; exact H
  · rw [c] at H; exact H
  · rw [c] at H; exact H
  · rw [c] at H; exact H
  · rw [c] at H; exact H
  · unfold wdO at H
    obtain ⟨c1, c2, c3, c4, c5, c6, c7⟩ := c
    rw [if_neg c1, if_neg c2, if_neg c3, if_neg c4, if_neg c5, if_neg c6, if_neg c7] at H
    exact H
/-- faulted, the reading goes on without a deed -/
theorem m_atom_f {x : Int} (hD : 8 ≤ D) (hs : am_sc scr) (hw : wf h) (o : flM h e) (H : Q none h) : am_R (am_prog scr) D f_M_readAtom 0 [some (.inr (.inr ((109 : Nat) : Int))), some (.inl (x))] [] h Q := by
  obtain ⟨D, rfl⟩ : ∃ d, D = d + 1 := ⟨D - 1, by omega⟩
  have nz : h.2.2.2 109 11 ≠ 0 := by rw [o.1]; exact o.2.1
  refine w_M_readAtom_0 hs hw (m_is_f hs hw o ⟨_, rfl, hw, fun _ => ⟨fun _ => ?_, fun z => absurd z nz⟩, fun c => absurd rfl c⟩)
  refine w_M_readAtom_66 hs hw (m_is_f hs hw o ⟨_, rfl, hw, fun _ => ?_, fun c => absurd rfl c⟩)
  exact m_is_f hs hw o ⟨_, rfl, hw, fun _ => m_fails_f hs hw o ⟨rfl, hw, H⟩, fun c => absurd rfl c⟩
theorem m_term_f {x : Int} (hD : 9 ≤ D) (hs : am_sc scr) (hw : wf h) (o : flM h e) (H : Q none h) : am_R (am_prog scr) D f_M_readTerm 0 [some (.inr (.inr ((109 : Nat) : Int))), some (.inl (x))] [] h Q := by
  obtain ⟨D, rfl⟩ : ∃ d, D = d + 1 := ⟨D - 1, by omega⟩
  refine w_M_readTerm_0 hs hw (m_atom_f (by omega) hs hw o ⟨rfl, hw, ?_⟩)
  exact w_M_readTerm_5 hs hw (m_eats_f (by omega) hs hw o ⟨_, rfl, hw, fun _ => H, fun c => absurd rfl c⟩)
theorem m_sum_f {x : Int} (hD : 10 ≤ D) (hs : am_sc scr) (hw : wf h) (o : flM h e) (H : Q none h) : am_R (am_prog scr) D f_M_readSum 0 [some (.inr (.inr ((109 : Nat) : Int))), some (.inl (x)), none] [] h Q := by
  obtain ⟨D, rfl⟩ : ∃ d, D = d + 1 := ⟨D - 1, by omega⟩
  refine w_M_readSum_0 hs hw (m_term_f (by omega) hs hw o ⟨rfl, hw, ?_⟩)
  refine w_M_readSum_5 hs hw (m_is_f hs hw o ⟨_, rfl, hw, fun c => absurd rfl c, fun _ => ?_⟩)
  exact m_is_f hs hw o ⟨_, rfl, hw, fun _ => H, fun c => absurd rfl c⟩
end RM
/-- reading one piece -/
def RcM (scr : Nat × (Nat → Int)) (T : Nat → Int) (N D f : Nat) (lv : am_Lv) (F : Nat → PR) : Prop := ∀ (h : am_H) (Q : Option am_V → am_H → Prop) (p n : Nat), wf h → teM h T N → okM h T N p → h.2.2.2 113 211 = (n : Int) → n ≤ p → (∀ g, wf g → fr [113] RMF h g → PM T N h g n (F p) → Q none g) → am_R (am_prog scr) D f 0 lv [] h Q
