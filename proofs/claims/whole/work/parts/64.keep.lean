/-! how long it can be kept from both -/
def kN (a : Nat → Int) (f : Nat → (Nat → Int) → Int) : Nat → Int → Prop
  | 0, st => ¬ ovT a st
  | k + 1, st => ¬ ovT a st ∧ ∃ e, (0 ≤ e ∧ e ≤ a 4) ∧ kN a f k (Tr a f st e)
def isK (a : Nat → Int) (f : Nat → (Nat → Int) → Int) (st v : Int) : Prop := (v = 268435456 ∧ ∀ k, kN a f k st) ∨ ((0 ≤ v ∧ v < 268435456) ∧ kN a f v.toNat st ∧ ¬ kN a f (v.toNat + 1) st)
/-- what the next stand must be -/
def kpP (a : Nat → Int) (f : Nat → (Nat → Int) → Int) (v s : Int) : Prop := ¬ ovT a s ∧ isK a f s (if v = 268435456 then 268435456 else v - 1)
def keepP (a : Nat → Int) (f : Nat → (Nat → Int) → Int) : Nat → Int → Int → Prop
  | 0, st, z => ∃ v, isK a f st v ∧ ((v = 0 ∧ z = -1) ∨ (0 < v ∧ leastE a f (kpP a f v) st z))
  | i + 1, st, z => ∃ v, isK a f st v ∧ ((v = 0 ∧ z = -1) ∨ (0 < v ∧ ∃ e, leastE a f (kpP a f v) st e ∧ keepP a f i (Tr a f st e) z))
section KN
variable {a : Nat → Int} {f : Nat → (Nat → Int) → Int} {B : Int}
theorem kN_pred : ∀ (k : Nat) {st : Int}, kN a f (k + 1) st → kN a f k st := by
  intro k
  induction k with
  | zero => intro st h; exact h.1
  | succ k ih =>
    intro st h
    obtain ⟨h1, e, h2, h3⟩ := h
    exact ⟨h1, e, h2, ih h3⟩
theorem kN_le {k n : Nat} {st : Int} (hk : k ≤ n) (h : kN a f n st) : kN a f k st := by
  induction hk with
  | refl => exact h
  | step _ ih => exact ih (kN_pred _ h)
theorem kN_0 {k : Nat} {st : Int} (h : kN a f k st) : ¬ ovT a st := kN_le (Nat.zero_le k) h
theorem isK.uniq {st v v' : Int} (x : isK a f st v) (y : isK a f st v') : v = v' := by
  rcases x with ⟨x1, x2⟩ | ⟨x1, x2, x3⟩ <;> rcases y with ⟨y1, y2⟩ | ⟨y1, y2, y3⟩
  · omega
  · exact absurd (x2 _) y3
  · exact absurd (y2 _) x3
  · rcases Int.lt_trichotomy v v' with q | q | q
    · exact absurd (kN_le (by omega) y2) x3
    · exact q
    · exact absurd (kN_le (by omega) x2) y3
theorem keepP.uniq : ∀ (i : Nat) {st z z' : Int}, keepP a f i st z → keepP a f i st z' → z = z' := by
  intro i
  induction i with
  | zero =>
    intro st z z' ⟨v, x1, x2⟩ ⟨v', y1, y2⟩
    have e := x1.uniq y1
    subst e
    rcases x2 with x2 | x2 <;> rcases y2 with y2 | y2
    · omega
    · omega
    · omega
    · exact x2.2.uniq y2.2
  | succ i ih =>
    intro st z z' ⟨v, x1, x2⟩ ⟨v', y1, y2⟩
    have e := x1.uniq y1
    subst e
    rcases x2 with x2 | ⟨x2, e1, x3, x4⟩ <;> rcases y2 with y2 | ⟨y2, e2, y3, y4⟩
    · omega
    · omega
    · omega
    · have := x3.uniq y3
      subst this
      exact ih x4 y4
theorem kN_path : ∀ (k : Nat) {st : Int}, Rch a f st → kN a f k st → ∃ p : Nat → Int, p 0 = st ∧ (∀ i, i ≤ k → Rch a f (p i) ∧ ¬ ovT a (p i)) ∧ ∀ i, i < k → ∃ e, (0 ≤ e ∧ e ≤ a 4) ∧ p (i + 1) = Tr a f (p i) e := by
  intro k
  induction k with
  | zero => intro st hr h; exact ⟨fun _ => st, rfl, fun i _ => ⟨hr, h⟩, fun i hi => by omega⟩
  | succ k ih =>
    intro st hr h
    obtain ⟨h1, e, h2, h3⟩ := h
    obtain ⟨p, p0, p1, p2⟩ := ih (hr.step h1 h2) h3
    refine ⟨fun i => match i with
      | 0 => st
      | i + 1 => p i, rfl, fun i hi => ?_, fun i hi => ?_⟩
    · match i, hi with
      | 0, _ => exact ⟨hr, h1⟩
      | i + 1, hi => exact p1 i (by omega)
    · match i, hi with
      | 0, _ => exact ⟨e, h2, p0⟩
      | i + 1, hi => exact p2 i (by omega)
theorem kN_big (r : rok a f B) {st : Int} (hr : Rch a f st) (h : kN a f 144 st) : ∀ n, kN a f n st := by
  obtain ⟨p, p0, p1, p2⟩ := kN_path 144 hr h
  have ex : ∃ i j, i < j ∧ j ≤ 144 ∧ p i = p j := by
    apply Classical.byContradiction
    intro c
    have := pigeon 144 145 (fun i => (nodeS (p i)).toNat) (fun i hi => by
      have q := p1 i (by omega)
      have := on_144 r (q.1.ok r) q.2
      show (nodeS (p i)).toNat < 144
      omega) (fun i j hij hj e => by
      have q1 := p1 i (by omega)
      have q2 := p1 j (by omega)
      have b1 := on_144 r (q1.1.ok r) q1.2
      have b2 := on_144 r (q2.1.ok r) q2.2
      have e : (nodeS (p i)).toNat = (nodeS (p j)).toNat := e
      exact c ⟨i, j, hij, by omega, nodeS_inj (q1.1.ok r).1 (q2.1.ok r).1 (fun q => q1.2 (Or.inr q)) (by omega)⟩)
    omega
  obtain ⟨i, j, hij, hj, e⟩ := ex
  have loop : ∀ n t, i ≤ t → t ≤ j → kN a f n (p t) := by
    intro n
    induction n with
    | zero => intro t h1 h2; exact (p1 t (by omega)).2
    | succ n ih =>
      intro t h1 h2
      by_cases q : t < j
      · obtain ⟨d, d1, d2⟩ := p2 t (by omega)
        refine ⟨(p1 t (by omega)).2, d, d1, ?_⟩
        rw [← d2]
        exact ih (t + 1) (by omega) (by omega)
      · have : t = j := by omega
        subst this
        rw [← e]
        obtain ⟨d, d1, d2⟩ := p2 i (by omega)
        refine ⟨(p1 i (by omega)).2, d, d1, ?_⟩
        rw [← d2]
        exact ih (i + 1) (by omega) (by omega)
  have back : ∀ m t, t + m = i → ∀ n, kN a f n (p t) := by
    intro m
    induction m with
    | zero => intro t ht n; exact loop n t (by omega) (by omega)
    | succ m ih =>
      intro t ht n
      cases n with
      | zero => exact (p1 t (by omega)).2
      | succ n =>
        obtain ⟨d, d1, d2⟩ := p2 t (by omega)
        refine ⟨(p1 t (by omega)).2, d, d1, ?_⟩
        rw [← d2]
        exact ih (t + 1) (by omega) n
  intro n
  rw [← p0]
  exact back i 0 (by omega) n
theorem isK.small (r : rok a f B) {st v : Int} (hr : Rch a f st) (x : isK a f st v) (hv : v < 268435456) : 0 ≤ v ∧ v ≤ 143 := by
  rcases x with ⟨x1, _⟩ | ⟨x1, x2, x3⟩
  · omega
  · refine ⟨x1.1, ?_⟩
    apply Decidable.byContradiction
    intro c
    exact x3 (kN_big r hr (kN_le (by omega) x2) _)
/-- bounded: one knows by how much -/
theorem isK_ex {st : Int} {K : Nat} (ho : ¬ ovT a st) (hK : K < 268435456) (h : ¬ kN a f (K + 1) st) : ∃ v : Nat, v ≤ K ∧ isK a f st v := by
  induction K with
  | zero => exact ⟨0, by omega, Or.inr ⟨by omega, ho, h⟩⟩
  | succ K ih =>
    by_cases q : kN a f (K + 1) st
    · exact ⟨K + 1, by omega, Or.inr ⟨by omega, by rw [Int.toNat_natCast]; exact q, by rw [Int.toNat_natCast]; exact h⟩⟩
    · obtain ⟨v, v1, v2⟩ := ih (by omega) q
      exact ⟨v, by omega, v2⟩
/-- a beat on -/
theorem isK.step {st v : Int} (x : isK a f st v) (hv : 0 < v) : ∃ e, (0 ≤ e ∧ e ≤ a 4) ∧ kpP a f v (Tr a f st e) := by
  rcases x with ⟨x1, x2⟩ | ⟨x1, x2, x3⟩
  · -- for ever: one of the finitely many deeds keeps it so
    apply Classical.byContradiction
    intro c
    have fin : ∀ e : Nat, ∃ k, (e : Int) ≤ a 4 → ¬ kN a f k (Tr a f st e) := by
      intro e
      by_cases q : (e : Int) ≤ a 4
      · apply Classical.byContradiction
        intro c2
        have all : ∀ k, kN a f k (Tr a f st e) := by
          intro k
          apply Classical.byContradiction
          intro c3
          exact c2 ⟨k, fun _ => c3⟩
        refine c ⟨e, ⟨by omega, q⟩, all 0, Or.inl ⟨by rw [if_pos x1], all⟩⟩
      · exact ⟨0, fun q2 => absurd q2 q⟩
    have bnd : ∀ n : Nat, ∃ k, ∀ e : Nat, e < n → (e : Int) ≤ a 4 → ¬ kN a f k (Tr a f st e) := by
      intro n
      induction n with
      | zero => exact ⟨0, fun e he => by omega⟩
      | succ n ih =>
        obtain ⟨k1, h1⟩ := ih
        obtain ⟨k2, h2⟩ := fin n
        refine ⟨max k1 k2, fun e he hea hk => ?_⟩
        by_cases q : e = n
        · subst q; exact h2 hea (kN_le (Nat.le_max_right _ _) hk)
        · exact h1 e (by omega) hea (kN_le (Nat.le_max_left _ _) hk)
    obtain ⟨k, hk⟩ := bnd ((a 4).toNat + 1)
    obtain ⟨_, e, h2, h3⟩ := x2 (k + 1)
    have := hk e.toNat (by omega) (by omega)
    rw [show ((e.toNat : Nat) : Int) = e by omega] at this
    exact this h3
  · obtain ⟨m, hm⟩ : ∃ m, v.toNat = m + 1 := ⟨v.toNat - 1, by omega⟩
    rw [hm] at x2 x3
    obtain ⟨h1, e, h2, h3⟩ := x2
    refine ⟨e, h2, kN_0 h3, Or.inr ?_⟩
    rw [if_neg (by omega), show (v - 1).toNat = m by omega]
    exact ⟨by omega, h3, fun c => x3 ⟨h1, e, h2, c⟩⟩
end KN
def kbV (h : am_H) (a : Nat → Int) (f : Nat → (Nat → Int) → Int) (st : Int) (e : Nat) : Int := if thV a f st e = -1 ∨ ovT a (thV a f st e) then -1 else if h.2.2.2 121 (thV a f st e).toNat = 268435456 then 268435456 else h.2.2.2 121 (thV a f st e).toNat + 1
def kI (h : am_H) (a : Nat → Int) (f : Nat → (Nat → Int) → Int) : Prop := ∀ st, Rch a f st → (0 ≤ h.2.2.2 121 st.toNat ∧ h.2.2.2 121 st.toNat ≤ 268435456) ∧ (¬ ovT a st → h.2.2.2 121 st.toNat < 268435456 → isK a f st (h.2.2.2 121 st.toNat))
section KM
variable {scr : Nat × (Nat → Int)} {d : Nat} {h : am_H} {Q : Option am_V → am_H → Prop} {a : Nat → Int} {f : Nat → (Nat → Int) → Int} {B : Int}
theorem k_keptBy {st : Int} {e : Nat} (hs : am_sc scr) (hw : wf h) (ha : h.2.2.2 110 = a) (r : rok a f B) (x : msP h a f) (hr : Rch a f st) (he : e < 7) (hb : kI h a f) (H : Q (some (.inl (kbV h a f st e))) h) : am_R (am_prog scr) (d + 3) f_M_keptBy 0 [some (.inr (.inr ((109 : Nat) : Int))), some (.inl (st)), some (.inl ((e : Int))), none] [] h Q := by
  have so := (hr.ok r).1
  have e7 : am_w (am_w (7 * st) + (e : Int)) = 7 * st + (e : Int) := by simp (disch := omega) only [am_w_id, am_W_id]
  refine w_M_keptBy_0 hs hw ?_
  rw [e7, x.2.2.2.2 st hr e he]
  unfold kbV at H
  refine ⟨by omega, fun y hy => ?_⟩
  subst hy
  rcases thV_r r hr e with q | ⟨q1, q2, _⟩
  · rw [if_pos (Or.inl q)] at H
    exact ⟨fun _ => H, fun c => absurd q c⟩
  · refine ⟨fun c => by omega, fun _ => ?_⟩
    refine k_isOverT hs hw ha q2 ⟨_, rfl, hw, fun c => ⟨q2, ?_⟩, fun c => ?_⟩
    · rw [i0] at c
      rw [if_neg (fun z => by rcases z with z | z; · omega
                              · exact c z)] at H
      refine ⟨fun c2 => ⟨q2, ?_⟩, fun c2 => ?_⟩
      · rw [if_neg c2] at H
        have := (hb _ q1).1
        rw [am_w_id (by omega) (by omega)]; exact H
      · rw [if_pos c2] at H; exact H
    · rw [i0, Decidable.not_not] at c
      rw [if_pos (Or.inr c)] at H; exact H
/-- what a number of keptBy says -/
theorem kbV_c (r : rok a f B) (hb : kI h a f) {st : Int} (hr : Rch a f st) (e : Nat) : (kbV h a f st e = -1 ∧ (¬ ovT a st ∧ (e : Int) ≤ a 4 → ovT a (Tr a f st e))) ∨ ((¬ ovT a st ∧ (e : Int) ≤ a 4) ∧ ¬ ovT a (Tr a f st e) ∧ h.2.2.2 121 (Tr a f st e).toNat = 268435456 ∧ kbV h a f st e = 268435456) ∨ ((¬ ovT a st ∧ (e : Int) ≤ a 4) ∧ ¬ ovT a (Tr a f st e) ∧ isK a f (Tr a f st e) (kbV h a f st e - 1) ∧ 1 ≤ kbV h a f st e ∧ kbV h a f st e ≤ 144 ∧ h.2.2.2 121 (Tr a f st e).toNat = kbV h a f st e - 1) := by
  unfold kbV
  rcases thV_r r hr e with q | ⟨q1, q2, q3, q4, q5⟩
  · refine Or.inl ⟨by rw [if_pos (Or.inl q)], fun c => ?_⟩
    have t : thV a f st e = Tr a f st e := by unfold thV; rw [if_pos c]
    have := (hr.step (e := (e : Int)) c.1 ⟨by omega, c.2⟩).ok r
    rw [← t, q] at this
    have := this.1
    omega
  · rw [q5] at q1 q2 ⊢
    by_cases o : ovT a (Tr a f st e)
    · exact Or.inl ⟨by rw [if_pos (Or.inr o)], fun _ => o⟩
    · rw [if_neg (fun z => by rcases z with z | z; · omega
                              · exact o z)]
      by_cases q6 : h.2.2.2 121 (Tr a f st e).toNat = 268435456
      · exact Or.inr (Or.inl ⟨⟨q3, q4⟩, o, q6, by rw [if_pos q6]⟩)
      · rw [if_neg q6]
        have b := hb _ q1
        have k := b.2 o (by omega)
        have sm := k.small r q1 (by omega)
        refine Or.inr (Or.inr ⟨⟨q3, q4⟩, o, ?_, by omega, by omega, by omega⟩)
        rw [show h.2.2.2 121 (Tr a f st e).toNat + 1 - 1 = h.2.2.2 121 (Tr a f st e).toNat by omega]
        exact k
/-- a pass -/
def psK (b g : am_H) (a : Nat → Int) (f : Nat → (Nat → Int) → Int) (fl : Int) (i : Nat) : Prop := wf g ∧ g.2.2.2 110 = a ∧ msP g a f ∧ kI g a f ∧ fr [121] [] b g ∧ ((fl = 0 ∧ (∀ j, g.2.2.2 121 j = b.2.2.2 121 j) ∧ ∀ j : Nat, j < i → (j : Int) < g.2.2.2 109 29 → ¬ ovT a (g.2.2.2 119 j) → g.2.2.2 121 (g.2.2.2 119 j).toNat = 268435456 → ∃ e : Nat, e < 7 ∧ kbV g a f (g.2.2.2 119 j) e = 268435456) ∨ (fl = 1 ∧ muI g 121 < muI b 121))
theorem k_kept_44 {b : am_H} (hs : am_sc scr) (r : rok a f B) (K : ∀ (g : am_H) (fl : Int), psK b g a f fl (g.2.2.2 109 29).toNat → am_R (am_prog scr) (d + 4) f_M_laysKept 36 [some (.inr (.inr ((109 : Nat) : Int))), some (.inl (fl)), none, none, none, none] [] g Q) : ∀ (m i : Nat) (g : am_H) (fl : Int), (i : Int) + m = g.2.2.2 109 29 → psK b g a f fl i → am_R (am_prog scr) (d + 4) f_M_laysKept 44 [some (.inr (.inr ((109 : Nat) : Int))), some (.inl (fl)), some (.inl ((i : Int))), none, none, none] [] g Q := by
  intro m
  induction m with
  | zero =>
    intro i g fl hi x
    refine w_M_laysKept_44 hs x.1 ⟨fun _ => K g fl (by rw [show (g.2.2.2 109 29).toNat = i by omega]; exact x), fun c => by omega⟩
  | succ m ih =>
    intro i g fl hi x
    obtain ⟨x1, x2, x3, x4, x5, x6⟩ := x
    have c29 := x3.1
    have hr := x3.2.1 i (by omega)
    have so := (hr.ok r).1
    have fb := (x4 _ hr).1
    generalize hst : g.2.2.2 119 i = st at hr so fb
    -- the next place
    have next0 : (¬ ovT a st → g.2.2.2 121 st.toNat = 268435456 → ∃ e : Nat, e < 7 ∧ kbV g a f st e = 268435456) → ∀ y, y = am_w ((i : Int) + 1) → am_R (am_prog scr) (d + 4) f_M_laysKept 44 [some (.inr (.inr ((109 : Nat) : Int))), some (.inl (fl)), some (.inl (y)), none, none, none] [] g Q := by
      intro hq y hy
      rw [am_w_id (by omega) (by omega)] at hy
      obtain rfl : y = ((i + 1 : Nat) : Int) := by omega
      refine ih (i + 1) g fl (by omega) ⟨x1, x2, x3, x4, x5, ?_⟩
      rcases x6 with ⟨y1, y2, y3⟩ | y
      · refine Or.inl ⟨y1, y2, fun j hj h1 h2 h3 => ?_⟩
        by_cases q : j = i
        · rw [q, hst] at h2 h3 ⊢; exact hq h2 h3
        · exact y3 j (by omega) h1 h2 h3
      · exact Or.inr y
    have mid : ∀ (n e : Nat) (most : Int), e + n = 7 → 0 ≤ most → (∀ e', e' < e → kbV g a f st e' ≤ most) → (most = 0 ∨ ∃ e', e' < e ∧ kbV g a f st e' = most) → am_R (am_prog scr) (d + 4) f_M_laysKept 65 [some (.inr (.inr ((109 : Nat) : Int))), some (.inl (fl)), some (.inl ((i : Int))), some (.inl (st)), some (.inl (most)), some (.inl ((e : Int)))] [] g Q := by
      have last : ∀ (e : Nat) (most : Int), 0 ≤ most → (g.2.2.2 121 st.toNat = 268435456 → e = 7) → (∀ e', e' < e → kbV g a f st e' ≤ most) → (most = 0 ∨ ∃ e', e' < e ∧ kbV g a f st e' = most) → am_R (am_prog scr) (d + 4) f_M_laysKept 116 [some (.inr (.inr ((109 : Nat) : Int))), some (.inl (fl)), some (.inl ((i : Int))), some (.inl (st)), some (.inl (most)), some (.inl ((e : Int)))] [] g Q := by
        intro e most m0 he mx ex
        refine w_M_laysKept_116 hs x1 ⟨so, fun c y hy => next0 (fun _ q => by omega) y hy, fun c => ?_⟩
        have far : g.2.2.2 121 st.toNat = 268435456 := by omega
        have e7 := he far
        subst e7
        refine ⟨fun c2 => ⟨so, fun g4 e4 y hy => ?_⟩, fun c2 y hy => next0 (fun _ _ => ?_) y hy⟩
        · -- bounded now
          have mb : most ≤ 144 := by
            rcases ex with q | ⟨e', e1, e2⟩
            · omega
            · rcases kbV_c r x4 hr e' with z | z | z <;> omega
          have nofar : ∀ e : Nat, e < 7 → kbV g a f st e ≠ 268435456 := fun e he q => by have := mx e he; omega
          have isk : ¬ ovT a st → isK a f st most := by
            intro ho
            refine Or.inr ⟨by omega, ?_, ?_⟩
            · rcases ex with q | ⟨e', e1, e2⟩
              · rw [q]; exact ho
              · rcases kbV_c r x4 hr e' with z | z | ⟨z1, z2, z3, z4, z5, z6⟩
                · omega
                · omega
                · obtain ⟨m', hm'⟩ : ∃ m', most.toNat = m' + 1 := ⟨most.toNat - 1, by omega⟩
                  rw [hm']
                  refine ⟨ho, (e' : Int), ⟨by omega, z1.2⟩, ?_⟩
                  rcases z3 with ⟨u, _⟩ | ⟨_, u, _⟩
                  · omega
                  · rw [show (kbV g a f st e' - 1).toNat = m' by omega] at u; exact u
            · intro c3
              obtain ⟨_, e, h2, h3⟩ := c3
              have h4 := r.1.1
              have ee : ((e.toNat : Nat) : Int) = e := by omega
              rcases kbV_c r x4 hr e.toNat with z | z | ⟨z1, z2, z3, z4, z5, z6⟩
              · have := z.2 ⟨ho, by omega⟩
                rw [ee] at this
                exact kN_0 h3 this
              · exact nofar e.toNat (by omega) z.2.2.2
              · rw [ee] at z3
                have := mx e.toNat (by omega)
                rcases z3 with ⟨u, _⟩ | ⟨_, _, u⟩
                · omega
                · exact u (kN_le (by omega) h3)
          have f4 : fr [121] [] g g4 := by rw [e4]; exact fr.rfl.put (Or.inl (by decide))
          have c109 : g4.2.2.2 109 = g.2.2.2 109 := f4.c 109 (by decide) (by simp)
          have c119 : g4.2.2.2 119 = g.2.2.2 119 := f4.c 119 (by decide) (by simp)
          have c121 : ∀ j, g4.2.2.2 121 j = if j = st.toNat then most else g.2.2.2 121 j := by
            intro j; rw [e4]; simp only [put_at, true_and]
          rw [am_w_id (by omega) (by omega)] at hy
          obtain rfl : y = ((i + 1 : Nat) : Int) := by omega
          refine ih (i + 1) g4 1 (by rw [c109]; omega) ⟨by rw [e4]; exact x1.pa (by decide +kernel), (f4.c 110 (by decide) (by simp)).trans x2, x3.fr (by rw [c109]) c119 (f4.c 120 (by decide) (by simp)), fun s hr2 => ?_, x5.trans f4, Or.inr ⟨rfl, ?_⟩⟩
          · rw [c121]
            by_cases q : s.toNat = st.toNat
            · have es : s = st := by have := (hr2.ok r).1; omega
              subst es
              rw [if_pos rfl]
              exact ⟨by omega, fun ho _ => isk ho⟩
            · rw [if_neg q]; exact x4 s hr2
          · have lt : muI g4 121 < muI g 121 := by
              unfold muI
              rw [c109, c119]
              refine sumN_lt (k := i) (by omega) (fun j hj hne => ?_) ?_
              · show (g4.2.2.2 121 (g.2.2.2 119 j).toNat).toNat = (g.2.2.2 121 (g.2.2.2 119 j).toNat).toNat
                rw [c121, if_neg]
                intro q
                have rj := ((x3.2.1 j (by omega)).ok r).1
                have es : g.2.2.2 119 j = g.2.2.2 119 i := by rw [hst]; omega
                rcases Nat.lt_or_ge j i with q2 | q2
                · exact x3.2.2.2.1 j i q2 (by omega) es
                · exact x3.2.2.2.1 i j (by omega) (by omega) es.symm
              · show (g4.2.2.2 121 (g.2.2.2 119 i).toNat).toNat < (g.2.2.2 121 (g.2.2.2 119 i).toNat).toNat
                rw [hst, c121, if_pos rfl]
                omega
            have le : muI g 121 ≤ muI b 121 := by
              rcases x6 with ⟨_, y2, _⟩ | ⟨_, y2⟩
              · have c1 : g.2.2.2 109 = b.2.2.2 109 := x5.c 109 (by decide) (by simp)
                have c2 : g.2.2.2 119 = b.2.2.2 119 := x5.c 119 (by decide) (by simp)
                have c3 : g.2.2.2 121 = b.2.2.2 121 := funext y2
                unfold muI
                rw [c1, c2, c3]
                omega
              · omega
            omega
        · rcases ex with q | ⟨e', e1, e2⟩
          · omega
          · exact ⟨e', e1, by omega⟩
      intro n
      induction n with
      | zero =>
        intro e most he m0 mx ex
        refine w_M_laysKept_65 hs x1 ⟨fun _ => last e most m0 (fun _ => by omega) mx ex, fun c => by omega⟩
      | succ n ihn =>
        intro e most he m0 mx ex
        refine w_M_laysKept_65 hs x1 ⟨fun c => by omega, fun _ => ⟨so, fun c => last e most m0 (fun q => absurd q c) mx ex, fun c => ?_⟩⟩
        refine k_keptBy hs x1 x2 r x3 hr (by omega) x4 ⟨_, rfl, x1, fun c2 y hy => ?_, fun c2 => ?_⟩
        · rw [am_w_id (by omega) (by omega)] at hy
          obtain rfl : y = ((e + 1 : Nat) : Int) := by omega
          refine ihn (e + 1) most (by omega) m0 (fun e' h1 => ?_) ?_
          · by_cases q : e' = e
            · rw [q]; exact c2
            · exact mx e' (by omega)
          · rcases ex with q | ⟨e', e1, e2⟩
            · exact Or.inl q
            · exact Or.inr ⟨e', by omega, e2⟩
        · refine k_keptBy hs x1 x2 r x3 hr (by omega) x4 ⟨_, rfl, x1, fun y hy => ?_⟩
          rw [am_w_id (by omega) (by omega)] at hy
          obtain rfl : y = ((e + 1 : Nat) : Int) := by omega
          refine ihn (e + 1) _ (by omega) (by omega) (fun e' h1 => ?_) (Or.inr ⟨e, by omega, rfl⟩)
          by_cases q : e' = e
          · rw [q]; omega
          · have := mx e' (by omega); omega
    refine w_M_laysKept_44 hs x1 ⟨fun c => by omega, fun _ => ⟨by omega, fun y2 h2 => ?_⟩⟩
    rw [Int.toNat_natCast, hst] at h2
    subst h2
    exact mid 7 0 0 rfl (by omega) (fun e' h1 => by omega) (Or.inl rfl)
theorem k_kept_36 (hs : am_sc scr) (r : rok a f B) {b0 : am_H} (H : ∀ g, wf g → fr [121] [] b0 g → msP g a f → kI g a f → (∀ st, Rch a f st → ¬ ovT a st → isK a f st (g.2.2.2 121 st.toNat)) → Q (some (.inl (g.2.2.2 121 (stA a).toNat))) g) : ∀ (N : Nat) (b : am_H), muI b 121 ≤ N → wf b → b.2.2.2 110 = a → msP b a f → kI b a f → fr [121] [] b0 b → am_R (am_prog scr) (d + 4) f_M_laysKept 36 [some (.inr (.inr ((109 : Nat) : Int))), some (.inl (1)), none, none, none, none] [] b Q := by
  intro N
  induction N using Nat.strongRecOn with
  | _ N ih =>
    intro b hN wb ab xb yb fb
    have c29 := xb.1
    refine w_M_laysKept_36 hs wb ⟨fun c => by omega, fun _ => ?_⟩
    refine k_kept_44 (b := b) hs r (fun g fl x => ?_) (b.2.2.2 109 29).toNat 0 b 0 (by omega) ⟨wb, ab, xb, yb, fr.rfl, Or.inl ⟨rfl, fun _ => rfl, fun j hj => by omega⟩⟩
    obtain ⟨x1, x2, x3, x4, x5, x6⟩ := x
    rcases x6 with ⟨y1, y2, y3⟩ | ⟨y1, y2⟩
    · subst y1
      refine w_M_laysKept_36 hs x1 ⟨fun _ => ?_, fun c => by omega⟩
      have ever : ∀ (k : Nat) (st : Int), Rch a f st → ¬ ovT a st → g.2.2.2 121 st.toNat = 268435456 → kN a f k st := by
        intro k
        induction k with
        | zero => intro st _ ho _; exact ho
        | succ k ihk =>
          intro st hr ho hf
          obtain ⟨j, j1, j2⟩ := x3.2.2.1 st hr
          have := y3 j (by omega) j1 (by rw [j2]; exact ho) (by rw [j2]; exact hf)
          rw [j2] at this
          obtain ⟨e, e1, e2⟩ := this
          rcases kbV_c r x4 hr e with z | ⟨z1, z2, z3, z4⟩ | z
          · omega
          · exact ⟨ho, (e : Int), ⟨by omega, z1.2⟩, ihk _ (hr.step z1.1 ⟨by omega, z1.2⟩) z2 z3⟩
          · omega
      refine k_standNowA hs x1 x2 r ⟨_, rfl, x1, r.st.1, ?_⟩
      refine H g x1 (fb.trans x5) x3 x4 (fun st hr ho => ?_)
      by_cases q : g.2.2.2 121 st.toNat = 268435456
      · exact Or.inl ⟨q, fun k => ever k st hr ho q⟩
      · have := (x4 st hr).1
        exact (x4 st hr).2 ho (by omega)
    · subst y1
      exact ih (muI g 121) (by omega) g (by omega) x1 x2 x3 x4 (fb.trans x5)
theorem k_laysKept (hs : am_sc scr) (hw : wf h) (ha : h.2.2.2 110 = a) (r : rok a f B) (H : ∀ g, wf g → fr [114, 115, 119, 120, 121, 123] [(109, 29)] h g → msP g a f → kI g a f → (∀ st, Rch a f st → ¬ ovT a st → isK a f st (g.2.2.2 121 st.toNat)) → Q (some (.inl (g.2.2.2 121 (stA a).toNat))) g) : am_R (am_prog scr) (d + 6) f_M_laysKept 0 [some (.inr (.inr ((109 : Nat) : Int))), none, none, none, none, none] [] h Q := by
  refine w_M_laysKept_0 hs hw ?_
  refine k_laysStands hs hw ha r (fun b0 w0 f0 x0 => ⟨rfl, w0, ?_⟩)
  have a0 : b0.2.2.2 110 = a := (f0.c 110 (by decide) (by decide)).trans ha
  have c29 := x0.1
  have lp : ∀ (m k : Nat) (g : am_H), (k : Int) + m = b0.2.2.2 109 29 → wf g → fr [121] [] b0 g → (∀ i : Nat, i < k → g.2.2.2 121 (b0.2.2.2 119 i).toNat = 268435456) → am_R (am_prog scr) (d + 6) f_M_laysKept 6 [some (.inr (.inr ((109 : Nat) : Int))), some (.inl ((k : Int))), none, none, none, none] [] g Q := by
    intro m
    induction m with
    | zero =>
      intro k g hk wg fg p
      have c109 : g.2.2.2 109 = b0.2.2.2 109 := fg.c 109 (by decide) (by simp)
      have xg : msP g a f := x0.fr (by rw [c109]) (fg.c 119 (by decide) (by simp)) (fg.c 120 (by decide) (by simp))
      refine w_M_laysKept_6 hs wg ?_
      rw [c109]
      refine ⟨fun _ => ?_, fun c => by omega⟩
      refine (k_kept_36 (d := d + 2) hs r (b0 := b0) (fun g2 w2 f2 x2 y2 z2 => H g2 w2 ((f0.mono (by decide) (by decide)).trans (f2.mono (by decide) (by simp))) x2 y2 z2) (muI g 121) g (by omega) wg ((fg.c 110 (by decide) (by simp)).trans a0) xg (fun st hr => ?_) fg)
      obtain ⟨i, i1, i2⟩ := x0.2.2.1 st hr
      have := p i (by omega)
      rw [i2] at this
      rw [this]
      exact ⟨by omega, fun _ c => by omega⟩
    | succ m ih =>
      intro k g hk wg fg p
      have c109 : g.2.2.2 109 = b0.2.2.2 109 := fg.c 109 (by decide) (by simp)
      have c119 : g.2.2.2 119 = b0.2.2.2 119 := fg.c 119 (by decide) (by simp)
      have hr := x0.2.1 k (by omega)
      have so := (hr.ok r).1
      refine w_M_laysKept_6 hs wg ?_
      rw [c109, c119, Int.toNat_natCast]
      refine ⟨fun c => by omega, fun _ => ⟨by omega, so, fun g2 e2 y hy => ?_⟩⟩
      rw [am_w_id (by omega) (by omega)] at hy
      obtain rfl : y = ((k + 1 : Nat) : Int) := by omega
      refine ih (k + 1) g2 (by omega) (by rw [e2]; exact wg.pa (by decide +kernel)) (fg.trans (by rw [e2]; exact fr.rfl.put (Or.inl (by decide)))) (fun i hi => ?_)
      rw [e2]
      simp only [put_at, true_and]
      by_cases q : (b0.2.2.2 119 i).toNat = (b0.2.2.2 119 k).toNat
      · rw [if_pos q]
      · rw [if_neg q]
        by_cases q2 : i = k
        · rw [q2] at q; exact absurd rfl q
        · exact p i (by omega)
  exact lp (b0.2.2.2 109 29).toNat 0 b0 (by omega) w0 fr.rfl (fun i hi => by omega)
theorem k_Mkeeps (hs : am_sc scr) (hw : wf h) (ha : h.2.2.2 110 = a) (r : rok a f B) (H : ∀ g z, wf g → fr [114, 115, 119, 120, 121, 123] [(109, 0), (109, 29)] h g → ((ovA a → z = -5) ∧ (¬ ovA a → ∃ v, isK a f (stA a) v ∧ z = if v = 268435456 then -1 else v)) → Q (some (.inl (z))) g) : am_R (am_prog scr) (d + 7) f_M_keeps 0 [some (.inr (.inr ((109 : Nat) : Int)))] [] h Q := by
  refine w_M_keeps_0 hs hw (fun g1 q1 => ?_)
  have w1 : wf g1 := by rw [q1]; exact (put0 hw).1
  have f0 : fr [] [(109, 0)] h g1 := by rw [q1]; exact (put0 hw).2
  have a1 : g1.2.2.2 110 = a := (f0.c 110 (by simp) (by decide)).trans ha
  have f1 : fr [114, 115, 119, 120, 121, 123] [(109, 0), (109, 29)] h g1 := f0.mono (by simp) (by decide)
  refine k_standNowA hs w1 a1 r ⟨_, rfl, w1, ?_⟩
  refine k_isOverA hs w1 a1 r ⟨_, rfl, w1, fun c => ?_, fun c => ?_⟩
  · rw [i0] at c
    refine k_laysKept hs w1 a1 r (fun g wg fg x y z => ⟨_, rfl, wg, ?_⟩)
    have HH := fun z2 e => H g z2 wg (f1.trans (fg.mono (by decide) (by decide))) ⟨fun q => absurd q c, fun _ => ⟨_, z _ Rch.zero (fun q => c (r.over.mp q)), e⟩⟩
    refine w_M_toldFar_0 hs wg ⟨fun c2 => ⟨_, rfl, wg, HH _ (by rw [if_neg c2])⟩, fun c2 => ⟨_, rfl, wg, HH _ (by rw [if_pos c2])⟩⟩
  · rw [i0, Decidable.not_not] at c
    exact H g1 _ w1 f1 ⟨fun _ => rfl, fun q => absurd c q⟩
theorem k_keeping_46 {i : Nat} (hs : am_sc scr) (hw : wf h) (ha : h.2.2.2 110 = a) (r : rok a f B) (x : msP h a f) (y : kI h a f) (z : ∀ st, Rch a f st → ¬ ovT a st → isK a f st (h.2.2.2 121 st.toNat)) (hi : i ≤ 99) : ∀ (m k : Nat) (st : Int), k + m = i → Rch a f st → ¬ ovT a st → (∀ z, keepP a f (i - k) st z → Q (some (.inl (z))) h) → am_R (am_prog scr) (d + 4) f_M_keeping 46 [some (.inr (.inr ((109 : Nat) : Int))), some (.inl ((i : Int))), some (.inl (st)), some (.inl ((k : Int))), none] [] h Q := by
  have iff : ∀ {st : Int} (e : Nat), e < 7 → Rch a f st → ¬ ovT a st → 0 < h.2.2.2 121 st.toNat → (kbV h a f st e = h.2.2.2 121 st.toNat ↔ ((e : Int) ≤ a 4) ∧ kpP a f (h.2.2.2 121 st.toNat) (Tr a f st e)) := by
    intro st e he hr ho hpos
    have b := (y st hr).1
    unfold kpP
    rcases kbV_c r y hr e with ⟨z1, z2⟩ | ⟨z1, z2, z3, z4⟩ | ⟨z1, z2, z3, z4, z5, z6⟩
    · refine ⟨fun c => by omega, fun c => ?_⟩
      exact absurd (z2 ⟨ho, c.1⟩) c.2.1
    · have k := z _ (hr.step (e := (e : Int)) ho ⟨by omega, z1.2⟩) z2
      rw [z3] at k
      refine ⟨fun c => ⟨z1.2, z2, ?_⟩, fun c => ?_⟩
      · rw [if_pos (by omega)]; exact k
      · have := k.uniq c.2.2
        by_cases q : h.2.2.2 121 st.toNat = 268435456
        · omega
        · rw [if_neg q] at this; omega
    · refine ⟨fun c => ⟨z1.2, z2, ?_⟩, fun c => ?_⟩
      · rw [if_neg (by omega), ← c]; exact z3
      · have := z3.uniq c.2.2
        by_cases q : h.2.2.2 121 st.toNat = 268435456
        · rw [if_pos q] at this; omega
        · rw [if_neg q] at this; omega
  intro m
  induction m with
  | zero =>
    intro k st hk hr ho H
    have so := (hr.ok r).1
    have b := (y st hr).1
    refine w_M_keeping_46 hs hw ⟨so, fun c => ?_, fun c => ?_⟩
    · refine H _ ?_
      rw [show i - k = 0 by omega]
      exact ⟨_, z st hr ho, Or.inl ⟨by omega, rfl⟩⟩
    · have stp := (z st hr ho).step (by omega)
      have lp : ∀ (n e : Nat), e + n = 7 → (∀ e' : Nat, e' < e → ¬ kpP a f (h.2.2.2 121 st.toNat) (Tr a f st e')) → am_R (am_prog scr) (d + 4) f_M_keeping 58 [some (.inr (.inr ((109 : Nat) : Int))), some (.inl ((i : Int))), some (.inl (st)), some (.inl ((k : Int))), some (.inl ((e : Int)))] [] h Q := by
        intro n
        induction n with
        | zero =>
          intro e he p
          exfalso
          obtain ⟨e', e1, e2⟩ := stp
          have h4 := r.1.1
          have := p e'.toNat (by omega)
          rw [show ((e'.toNat : Nat) : Int) = e' by omega] at this
          exact this e2
        | succ n ihn =>
          intro e he p
          refine w_M_keeping_58 hs hw ?_
          refine k_keptBy hs hw ha r x hr (by omega) y ⟨_, rfl, hw, so, fun c1 => ?_, fun c1 q hq => ?_⟩
          · have c2 := (iff e (by omega) hr ho (by omega)).mp c1
            refine ⟨fun c3 => by omega, fun _ => H _ ?_⟩
            rw [show i - k = 0 by omega]
            exact ⟨_, z st hr ho, Or.inr ⟨by omega, ⟨by omega, c2.1⟩, c2.2, fun e' h1 h2 => by
              have := p e'.toNat (by omega)
              rw [show ((e'.toNat : Nat) : Int) = e' by omega] at this
              exact this⟩⟩
          · rw [am_w_id (by omega) (by omega)] at hq
            obtain rfl : q = ((e + 1 : Nat) : Int) := by omega
            refine ihn (e + 1) (by omega) (fun e' h1 c2 => ?_)
            by_cases q : e' = e
            · subst q
              by_cases q2 : (e' : Int) ≤ a 4
              · exact c1 ((iff e' (by omega) hr ho (by omega)).mpr ⟨q2, c2⟩)
              · have h4 := r.1.1
                have es : Tr a f st (e' : Int) = Tr a f st 0 := by
                  have sb := snorS_b r.1 (hu := a 28) (wk := -1) so.1
                  have t1 := Tr_two (a := a) (f := f) (s := st) (e := (e' : Int)) (by omega)
                  have t2 := Tr_two (a := a) (f := f) (s := st) (e := 0) (by omega)
                  rcases t1 with t1 | t1
                  · omega
                  · rcases t2 with t2 | t2
                    · rw [t1.2, t2.2, ← t2.1]; rfl
                    · rw [t1.2, t2.2]
                rw [es] at c2
                exact p 0 (by omega) c2
            · exact p e' (by omega) c2
      exact lp 7 0 rfl (fun e' h1 => by omega)
  | succ m ih =>
    intro k st hk hr ho H
    have so := (hr.ok r).1
    have b := (y st hr).1
    refine w_M_keeping_46 hs hw ⟨so, fun c => ?_, fun c => ?_⟩
    · refine H _ ?_
      rw [show i - k = (i - (k + 1)) + 1 by omega]
      exact ⟨_, z st hr ho, Or.inl ⟨by omega, rfl⟩⟩
    · have stp := (z st hr ho).step (by omega)
      have lp : ∀ (n e : Nat), e + n = 7 → (∀ e' : Nat, e' < e → ¬ kpP a f (h.2.2.2 121 st.toNat) (Tr a f st e')) → am_R (am_prog scr) (d + 4) f_M_keeping 58 [some (.inr (.inr ((109 : Nat) : Int))), some (.inl ((i : Int))), some (.inl (st)), some (.inl ((k : Int))), some (.inl ((e : Int)))] [] h Q := by
        intro n
        induction n with
        | zero =>
          intro e he p
          exfalso
          obtain ⟨e', e1, e2⟩ := stp
          have h4 := r.1.1
          have := p e'.toNat (by omega)
          rw [show ((e'.toNat : Nat) : Int) = e' by omega] at this
          exact this e2
        | succ n ihn =>
          intro e he p
          have e7 : am_w (am_w (7 * st) + (e : Int)) = 7 * st + (e : Int) := by simp (disch := omega) only [am_w_id, am_W_id]
          refine w_M_keeping_58 hs hw ?_
          refine k_keptBy hs hw ha r x hr (by omega) y ⟨_, rfl, hw, so, fun c1 => ?_, fun c1 q hq => ?_⟩
          · have c2 := (iff e (by omega) hr ho (by omega)).mp c1
            refine ⟨fun c3 => ?_, fun c3 => by omega⟩
            rw [e7, x.2.2.2.2 st hr e (by omega)]
            refine ⟨by omega, fun y5 h5 y6 h6 => ?_⟩
            have t : thV a f st e = Tr a f st e := by unfold thV; rw [if_pos ⟨ho, c2.1⟩]
            rw [t] at h5
            rw [am_w_id (by omega) (by omega)] at h6
            obtain rfl : y6 = ((k + 1 : Nat) : Int) := by omega
            subst h5
            refine ih (k + 1) _ (by omega) (hr.step ho ⟨by omega, c2.1⟩) c2.2.1 (fun z3 hz3 => H z3 ?_)
            rw [show i - k = (i - (k + 1)) + 1 by omega]
            exact ⟨_, z st hr ho, Or.inr ⟨by omega, (e : Int), ⟨⟨by omega, c2.1⟩, c2.2, fun e' h1 h2 => by
              have := p e'.toNat (by omega)
              rw [show ((e'.toNat : Nat) : Int) = e' by omega] at this
              exact this⟩, hz3⟩⟩
          · rw [am_w_id (by omega) (by omega)] at hq
            obtain rfl : q = ((e + 1 : Nat) : Int) := by omega
            refine ihn (e + 1) (by omega) (fun e' h1 c2 => ?_)
            by_cases q : e' = e
            · subst q
              by_cases q2 : (e' : Int) ≤ a 4
              · exact c1 ((iff e' (by omega) hr ho (by omega)).mpr ⟨q2, c2⟩)
              · have h4 := r.1.1
                have es : Tr a f st (e' : Int) = Tr a f st 0 := by
                  have sb := snorS_b r.1 (hu := a 28) (wk := -1) so.1
                  have t1 := Tr_two (a := a) (f := f) (s := st) (e := (e' : Int)) (by omega)
                  have t2 := Tr_two (a := a) (f := f) (s := st) (e := 0) (by omega)
                  rcases t1 with t1 | t1
                  · omega
                  · rcases t2 with t2 | t2
                    · rw [t1.2, t2.2, ← t2.1]; rfl
                    · rw [t1.2, t2.2]
                rw [es] at c2
                exact p 0 (by omega) c2
            · exact p e' (by omega) c2
      exact lp 7 0 rfl (fun e' h1 => by omega)
theorem k_Mkeeping {i : Int} (hs : am_sc scr) (hw : wf h) (ha : h.2.2.2 110 = a) (r : rok a f B) (H : ∀ g z, wf g → fr [114, 115, 119, 120, 121, 123] [(109, 0), (109, 29)] h g → ((0 ≤ i ∧ i ≤ 99 → ¬ ovA a → keepP a f i.toNat (stA a) z) ∧ (0 ≤ i ∧ i ≤ 99 → ovA a → z = -5) ∧ (¬ (0 ≤ i ∧ i ≤ 99) → z = -3)) → Q (some (.inl (z))) g) : am_R (am_prog scr) (d + 7) f_M_keeping 0 [some (.inr (.inr ((109 : Nat) : Int))), some (.inl (i)), none, none, none] [] h Q := by
  refine w_M_keeping_0 hs hw (fun g1 q1 => ?_)
  have w1 : wf g1 := by rw [q1]; exact (put0 hw).1
  have f0 : fr [] [(109, 0)] h g1 := by rw [q1]; exact (put0 hw).2
  have a1 : g1.2.2.2 110 = a := (f0.c 110 (by simp) (by decide)).trans ha
  have f1 : fr [114, 115, 119, 120, 121, 123] [(109, 0), (109, 29)] h g1 := f0.mono (by simp) (by decide)
  refine k_within hs w1 ⟨_, rfl, w1, fun c => ?_, fun c => ?_⟩
  · rw [i0, Decidable.not_not] at c
    refine k_standNowA hs w1 a1 r ⟨_, rfl, w1, ?_⟩
    refine k_isOverA hs w1 a1 r ⟨_, rfl, w1, fun c2 => ?_, fun c2 => ?_⟩
    · rw [i0] at c2
      refine k_laysKept hs w1 a1 r (fun g wg fg x y z => ⟨_, rfl, wg, ?_⟩)
      have ag : g.2.2.2 110 = a := (fg.c 110 (by decide) (by decide)).trans a1
      refine k_standNowA hs wg ag r ⟨_, rfl, wg, ?_⟩
      have ei : i = (i.toNat : Int) := by omega
      rw [ei]
      have := k_keeping_46 (d := d + 3) (Q := Q) (i := i.toNat) hs wg ag r x y z (by omega) i.toNat 0 (stA a) (by omega) Rch.zero (fun q => c2 (r.over.mp q)) (fun z2 hz => H g z2 wg (f1.trans (fg.mono (by decide) (by decide))) ⟨fun _ _ => hz, fun _ q => absurd q c2, fun q => absurd c q⟩)
      exact this
    · rw [i0, Decidable.not_not] at c2
      exact H g1 _ w1 f1 ⟨fun _ q => absurd c2 q, fun _ _ => rfl, fun q => absurd c q⟩
  · rw [i0] at c
    exact H g1 _ w1 f1 ⟨fun q => absurd q c, fun q => absurd q c, fun _ => rfl⟩
end KM
