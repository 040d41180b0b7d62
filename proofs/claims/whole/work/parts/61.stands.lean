/-! the reference: all stands that rows come to -/
def thV (a : Nat → Int) (f : Nat → (Nat → Int) → Int) (st : Int) (e : Nat) : Int := if ¬ ovT a st ∧ (e : Int) ≤ a 4 then Tr a f st e else -1
def mI (h : am_H) (a : Nat → Int) (f : Nat → (Nat → Int) → Int) : Prop := (0 ≤ h.2.2.2 109 29 ∧ h.2.2.2 109 29 ≤ 360) ∧ (∀ i : Nat, (i : Int) < h.2.2.2 109 29 → Rch a f (h.2.2.2 119 i)) ∧ (∀ n : Nat, n < 360 → (h.2.2.2 123 n = 0 ∧ ∀ i : Nat, (i : Int) < h.2.2.2 109 29 → h.2.2.2 119 i ≠ (n : Int)) ∨ (h.2.2.2 123 n = 1 ∧ ∃ i : Nat, (i : Int) < h.2.2.2 109 29 ∧ h.2.2.2 119 i = (n : Int))) ∧ ∀ i j : Nat, i < j → (j : Int) < h.2.2.2 109 29 → h.2.2.2 119 i ≠ h.2.2.2 119 j
/-- stands and what follows are laid -/
def msP (h : am_H) (a : Nat → Int) (f : Nat → (Nat → Int) → Int) : Prop := (0 ≤ h.2.2.2 109 29 ∧ h.2.2.2 109 29 ≤ 360) ∧ (∀ i : Nat, (i : Int) < h.2.2.2 109 29 → Rch a f (h.2.2.2 119 i)) ∧ (∀ st, Rch a f st → ∃ i : Nat, (i : Int) < h.2.2.2 109 29 ∧ h.2.2.2 119 i = st) ∧ (∀ i j : Nat, i < j → (j : Int) < h.2.2.2 109 29 → h.2.2.2 119 i ≠ h.2.2.2 119 j) ∧ ∀ st, Rch a f st → ∀ e : Nat, e < 7 → h.2.2.2 120 (7 * st + e).toNat = thV a f st e
section ST
variable {h g : am_H} {a : Nat → Int} {f : Nat → (Nat → Int) → Int} {B : Int}
theorem msP.fr (x : msP h a f) (e1 : g.2.2.2 109 29 = h.2.2.2 109 29) (e2 : g.2.2.2 119 = h.2.2.2 119) (e3 : g.2.2.2 120 = h.2.2.2 120) : msP g a f := by
  unfold msP
  rw [e1, e2, e3]
  exact x
theorem mI.lt (r : rok a f B) (x : mI h a f) {st : Int} (hr : Rch a f st) (new : ∀ i : Nat, (i : Int) < h.2.2.2 109 29 → h.2.2.2 119 i ≠ st) : h.2.2.2 109 29 < 360 := by
  obtain ⟨x1, x2, x3, x4⟩ := x
  have so := (hr.ok r).1
  have := pigeon 360 ((h.2.2.2 109 29).toNat + 1) (fun i => if (i : Int) < h.2.2.2 109 29 then (h.2.2.2 119 i).toNat else st.toNat) (fun i hi => by
    show (if (i : Int) < h.2.2.2 109 29 then (h.2.2.2 119 i).toNat else st.toNat) < 360
    split
    · rename_i q; have := ((x2 i q).ok r).1; omega
    · omega) (fun i j hij hj => by
    show (if (i : Int) < h.2.2.2 109 29 then (h.2.2.2 119 i).toNat else st.toNat) ≠ (if (j : Int) < h.2.2.2 109 29 then (h.2.2.2 119 j).toNat else st.toNat)
    rw [if_pos (by omega)]
    have h1 := ((x2 i (by omega)).ok r).1
    by_cases q : (j : Int) < h.2.2.2 109 29
    · rw [if_pos q]
      have h2 := ((x2 j q).ok r).1
      have := x4 i j hij q
      omega
    · rw [if_neg q]
      have := new i (by omega)
      omega)
  omega
end ST
section SK
variable {scr : Nat × (Nat → Int)} {d : Nat} {h : am_H} {Q : Option am_V → am_H → Prop} {a : Nat → Int} {f : Nat → (Nat → Int) → Int} {B : Int}
theorem k_adds {st : Int} (hs : am_sc scr) (hw : wf h) (r : rok a f B) (y : mI h a f) (hr : Rch a f st) (H : ∀ g, wf g → fr [119, 123] [(109, 29)] h g → mI g a f → h.2.2.2 109 29 ≤ g.2.2.2 109 29 → (∀ i : Nat, (i : Int) < h.2.2.2 109 29 → g.2.2.2 119 i = h.2.2.2 119 i) → (∃ i : Nat, (i : Int) < g.2.2.2 109 29 ∧ g.2.2.2 119 i = st) → Q none g) : am_R (am_prog scr) d f_M_adds 0 [some (.inr (.inr ((109 : Nat) : Int))), some (.inl (st))] [] h Q := by
  have so := (hr.ok r).1
  have y0 := y
  obtain ⟨y1, y2, y3, y4⟩ := y
  have en : ((st.toNat : Nat) : Int) = st := by omega
  refine w_M_adds_0 hs hw ⟨so, fun c => ⟨so, fun g3 e3 => ?_⟩, fun c => ?_⟩
  · have new : ∀ i : Nat, (i : Int) < h.2.2.2 109 29 → h.2.2.2 119 i ≠ st := by
      rcases y3 st.toNat (by omega) with q | q
      · intro i hi e
        exact q.2 i hi (by rw [e, en])
      · rw [q.1] at c; omega
    have lt := y0.lt r hr new
    have e7 : g3.2.2.2 109 29 = h.2.2.2 109 29 := by rw [e3, put_ne (by omega)]
    rw [e7]
    refine ⟨by omega, fun g5 e5 g6 e6 => ?_⟩
    have e7c : g5.2.2.2 109 29 = h.2.2.2 109 29 := by rw [e5, put_ne (by omega), e7]
    rw [e7c, am_w_id (by omega) (by omega)] at e6
    have w6 : wf g6 := by rw [e6, e5, e3]; exact ((hw.pa (by decide +kernel)).pa (by decide +kernel)).put np_109_29
    have f6 : fr [119, 123] [(109, 29)] h g6 := by
      rw [e6, e5, e3]
      exact ((fr.rfl.put (Or.inl (by decide))).put (Or.inl (by decide))).put (Or.inr (by decide))
    have c7 : g6.2.2.2 109 29 = h.2.2.2 109 29 + 1 := by rw [e6, put_eq]
    have c36 : ∀ j, g6.2.2.2 119 j = if j = (h.2.2.2 109 29).toNat then st else h.2.2.2 119 j := by
      intro j
      rw [e6, put_ne (by omega), e5]
      simp only [put_at, true_and]
      rw [e3]
      simp only [put_at]
      rw [if_neg (show ¬ ((119 : Nat) = 123 ∧ j = st.toNat) by omega)]
    have c37 : ∀ j, g6.2.2.2 123 j = if j = st.toNat then 1 else h.2.2.2 123 j := by
      intro j
      rw [e6, put_ne (by omega), e5, put_ne (by omega), e3]
      simp only [put_at, true_and]
    have old : ∀ i : Nat, (i : Int) < h.2.2.2 109 29 → g6.2.2.2 119 i = h.2.2.2 119 i := fun i hi => by rw [c36, if_neg (by omega)]
    have last : g6.2.2.2 119 (h.2.2.2 109 29).toNat = st := by rw [c36, if_pos rfl]
    refine H g6 w6 f6 ⟨by omega, fun i hi => ?_, fun n hn => ?_, fun i j hij hj => ?_⟩ (by omega) old ⟨(h.2.2.2 109 29).toNat, by omega, last⟩
    · by_cases q : (i : Int) < h.2.2.2 109 29
      · rw [old i q]; exact y2 i q
      · obtain rfl : i = (h.2.2.2 109 29).toNat := by omega
        rw [last]; exact hr
    · rw [c37]
      by_cases q : n = st.toNat
      · rw [if_pos q]
        exact Or.inr ⟨rfl, (h.2.2.2 109 29).toNat, by omega, by rw [last, q, en]⟩
      · rw [if_neg q]
        rcases y3 n hn with z | z
        · refine Or.inl ⟨z.1, fun i hi => ?_⟩
          by_cases q2 : (i : Int) < h.2.2.2 109 29
          · rw [old i q2]; exact z.2 i q2
          · obtain rfl : i = (h.2.2.2 109 29).toNat := by omega
            rw [last]; omega
        · obtain ⟨i, i1, i2⟩ := z.2
          exact Or.inr ⟨z.1, i, by omega, by rw [old i i1]; exact i2⟩
    · by_cases q : (j : Int) < h.2.2.2 109 29
      · rw [old i (by omega), old j q]; exact y4 i j hij q
      · obtain rfl : j = (h.2.2.2 109 29).toNat := by omega
        rw [last, old i (by omega)]; exact new i (by omega)
  · rcases y3 st.toNat (by omega) with q | q
    · exact absurd q.1 c
    · obtain ⟨i, i1, i2⟩ := q.2
      exact H h hw fr.rfl y0 (by omega) (fun _ _ => rfl) ⟨i, i1, by rw [i2, en]⟩
/-- of stand st the first e deeds are laid -/
def dI (h : am_H) (a : Nat → Int) (f : Nat → (Nat → Int) → Int) (st : Int) (e : Nat) : Prop := ∀ e', e' < e → h.2.2.2 120 (7 * st + (e' : Int)).toNat = thV a f st e' ∧ (¬ ovT a st ∧ (e' : Int) ≤ a 4 → ∃ j : Nat, (j : Int) < h.2.2.2 109 29 ∧ h.2.2.2 119 j = Tr a f st e')
theorem dI.keep {g : am_H} {st : Int} {e : Nat} (x : dI h a f st e) (h1 : ∀ e', e' < e → g.2.2.2 120 (7 * st + (e' : Int)).toNat = h.2.2.2 120 (7 * st + (e' : Int)).toNat) (h2 : h.2.2.2 109 29 ≤ g.2.2.2 109 29) (h3 : ∀ i : Nat, (i : Int) < h.2.2.2 109 29 → g.2.2.2 119 i = h.2.2.2 119 i) : dI g a f st e := by
  intro e' he
  refine ⟨by rw [h1 e' he]; exact (x e' he).1, fun c => ?_⟩
  obtain ⟨j, j1, j2⟩ := (x e' he).2 c
  exact ⟨j, by omega, by rw [h3 j j1]; exact j2⟩
theorem k_ms_47 {k : Nat} {st : Int} (hs : am_sc scr) (r : rok a f B) (K : ∀ (g : am_H), wf g → g.2.2.2 110 = a → mI g a f → (∀ i, i < k → dI g a f (g.2.2.2 119 i) 7) → (k : Int) < g.2.2.2 109 29 → g.2.2.2 119 k = st → dI g a f st 7 → (∃ j : Nat, (j : Int) < g.2.2.2 109 29 ∧ g.2.2.2 119 j = stA a) → fr [114, 115, 119, 120, 123] [(109, 29)] h g → am_R (am_prog scr) (d + 5) f_M_laysStands 37 [some (.inr (.inr ((109 : Nat) : Int))), some (.inl (((k + 1 : Nat) : Int))), none, none] [] g Q) : ∀ (m e : Nat) (g : am_H), e + m = 7 → wf g → g.2.2.2 110 = a → mI g a f → (∀ i, i < k → dI g a f (g.2.2.2 119 i) 7) → (k : Int) < g.2.2.2 109 29 → g.2.2.2 119 k = st → dI g a f st e → (∃ j : Nat, (j : Int) < g.2.2.2 109 29 ∧ g.2.2.2 119 j = stA a) → fr [114, 115, 119, 120, 123] [(109, 29)] h g → am_R (am_prog scr) (d + 5) f_M_laysStands 47 [some (.inr (.inr ((109 : Nat) : Int))), some (.inl ((k : Int))), some (.inl ((e : Int))), none] [] g Q := by
  intro m
  induction m with
  | zero =>
    intro e g he wg ag y p kc ks dd z fg
    refine w_M_laysStands_47 hs wg ⟨fun _ q hq => ?_, fun c => by omega⟩
    have y1 := y.1
    rw [am_w_id (by omega) (by omega)] at hq
    obtain rfl : q = ((k + 1 : Nat) : Int) := by omega
    rw [show e = 7 by omega] at dd
    exact K g wg ag y p kc ks dd z fg
  | succ m ih =>
    intro e g he wg ag y p kc ks dd z fg
    have y1 := y.1
    have hr : Rch a f st := by rw [← ks]; exact y.2.1 k kc
    have so := hr.ok r
    have h4 := r.1.1
    have put120 : ∀ (g2 : am_H) (v : Int), wf g2 → fr [114, 115] [] g g2 → v = thV a f st e → ∀ g7, g7 = am_put g2 120 (7 * st + (e : Int)).toNat v → wf g7 ∧ g7.2.2.2 110 = a ∧ mI g7 a f ∧ (∀ i, i < k → dI g7 a f (g7.2.2.2 119 i) 7) ∧ (k : Int) < g7.2.2.2 109 29 ∧ g7.2.2.2 119 k = st ∧ dI g7 a f st e ∧ g7.2.2.2 120 (7 * st + (e : Int)).toNat = thV a f st e ∧ (∃ j : Nat, (j : Int) < g7.2.2.2 109 29 ∧ g7.2.2.2 119 j = stA a) ∧ fr [114, 115, 119, 120, 123] [(109, 29)] h g7 := by
      intro g2 v w2 f2 hv g7 e7
      have f7 : fr [114, 115, 120] [] g g7 := (f2.mono (by decide) (by simp)).trans (by rw [e7]; exact fr.rfl.put (Or.inl (by decide)))
      have c119 : g7.2.2.2 119 = g.2.2.2 119 := f7.c 119 (by decide) (by simp)
      have c123 : g7.2.2.2 123 = g.2.2.2 123 := f7.c 123 (by decide) (by simp)
      have c109 : g7.2.2.2 109 = g.2.2.2 109 := f7.c 109 (by decide) (by simp)
      have c120 : ∀ j, g7.2.2.2 120 j = if j = (7 * st + (e : Int)).toNat then v else g.2.2.2 120 j := by
        intro j
        rw [e7]
        simp only [put_at, true_and]
        rw [f2.c 120 (by decide) (by simp)]
      refine ⟨by rw [e7]; exact w2.pa (by decide +kernel), (f7.c 110 (by decide) (by simp)).trans ag, by unfold mI; rw [c119, c123, c109]; exact y, fun i hi => ?_, by rw [c109]; exact kc, by rw [c119]; exact ks, ?_, by rw [c120, if_pos rfl, hv], by rw [c119, c109]; exact z, fg.trans (f7.mono (by decide) (by simp))⟩
      · rw [c119]
        refine (p i hi).keep (fun e' he' => ?_) (by rw [c109]; omega) (fun j _ => by rw [c119])
        have ri := ((y.2.1 i (by omega)).ok r).1
        have ne := y.2.2.2 i k hi kc
        rw [ks] at ne
        have := so.1
        rw [c120, if_neg (by omega)]
      · refine dd.keep (fun e' he' => ?_) (by rw [c109]; omega) (fun j _ => by rw [c119])
        have := so.1
        rw [c120, if_neg (by omega)]
    have e7m : am_w (am_w (7 * st) + (e : Int)) = 7 * st + (e : Int) := by
      have := so.1
      simp (disch := omega) only [am_w_id, am_W_id]
    refine w_M_laysStands_47 hs wg ⟨fun c => by omega, fun _ => ⟨by omega, ?_⟩⟩
    rw [Int.toNat_natCast, ks]
    refine k_whyBeat hs wg (by rw [ag]; exact h4) so.1 (by omega) (fun zz hz => ⟨_, rfl, wg, ?_⟩)
    rw [ag] at hz
    rw [ks, e7m]
    have sb := so.1
    refine ⟨fun c => ⟨by omega, by omega, fun g7 e7 => ⟨fun _ q hq => ?_, fun c2 => absurd rfl c2⟩⟩, fun c => ⟨by omega, ?_⟩⟩
    · have tv : (-1 : Int) = thV a f st e := by
        unfold thV
        rw [if_neg]
        intro q
        rcases hz with ⟨_, u⟩ | ⟨_, u, u2⟩ | ⟨u, _⟩
        · omega
        · exact q.1 u2
        · exact c u
      obtain ⟨b1, b2, b3, b4, b5, b6, b7, b8, b9, b10⟩ := put120 g (-1) wg fr.rfl tv g7 e7
      rw [am_w_id (by omega) (by omega)] at hq
      obtain rfl : q = ((e + 1 : Nat) : Int) := by omega
      refine ih (e + 1) g7 (by omega) b1 b2 b3 b4 b5 b6 (fun e' he' => ?_) b9 b10
      by_cases q : e' = e
      · subst q
        refine ⟨b8, fun u => ?_⟩
        unfold thV at tv
        rw [if_pos u] at tv
        have := (Tr_ok r (deed := (e' : Int)) so u.1).1
        omega
      · exact b7 e' (by omega)
    · have u : (0 ≤ (e : Int) ∧ (e : Int) ≤ a 4) ∧ ¬ ovT a st := by
        rcases hz with ⟨q, _⟩ | ⟨q, _⟩ | ⟨_, q⟩
        · omega
        · omega
        · exact q
      rw [am_w_id (by omega) (by omega), ag]
      refine k_beatToT hs wg ag r so u.2 (fun g2 w2 f2 => ⟨_, rfl, w2, by omega, ?_⟩)
      rw [f2.c 119 (by decide) (by simp), ks, e7m]
      refine ⟨by omega, fun g17 e17 => ?_⟩
      have tv : beatS a f (a 28) st ((e : Int) - 1) = thV a f st e := by
        unfold thV
        rw [if_pos ⟨u.2, u.1.2⟩]
        rfl
      obtain ⟨b1, b2, b3, b4, b5, b6, b7, b8, b9, b10⟩ := put120 g2 _ w2 f2 tv g17 e17
      have so2 := (Tr_ok r (deed := (e : Int)) so u.2).1
      unfold Tr at so2
      refine ⟨fun c2 => by omega, fun _ => ?_⟩
      have hr2 := hr.step (e := (e : Int)) u.2 u.1
      refine k_adds hs b1 r b3 hr2 (fun g19 w19 f19 y19 le19 old19 in19 => ⟨rfl, w19, fun q hq => ?_⟩)
      rw [am_w_id (by omega) (by omega)] at hq
      obtain rfl : q = ((e + 1 : Nat) : Int) := by omega
      have c120 : g19.2.2.2 120 = g17.2.2.2 120 := f19.c 120 (by decide) (by decide)
      refine ih (e + 1) g19 (by omega) w19 ((f19.c 110 (by decide) (by decide)).trans b2) y19 (fun i hi => ?_) (by omega) (by rw [old19 k b5]; exact b6) (fun e' he' => ?_) ?_ (b10.trans (f19.mono (by decide) (by decide)))
      · rw [old19 i (by omega)]
        exact (b4 i hi).keep (fun _ _ => by rw [c120]) le19 old19
      · by_cases q : e' = e
        · subst q
          exact ⟨by rw [c120]; exact b8, fun _ => in19⟩
        · exact (b7.keep (fun _ _ => by rw [c120]) le19 old19) e' (by omega)
      · obtain ⟨j, j1, j2⟩ := b9
        exact ⟨j, by omega, by rw [old19 j j1]; exact j2⟩
theorem k_laysStands (hs : am_sc scr) (hw : wf h) (ha : h.2.2.2 110 = a) (r : rok a f B) (H : ∀ g, wf g → fr [114, 115, 119, 120, 123] [(109, 29)] h g → msP g a f → Q none g) : am_R (am_prog scr) (d + 5) f_M_laysStands 0 [some (.inr (.inr ((109 : Nat) : Int))), none, none, none] [] h Q := by
  have lp : ∀ (m k : Nat) (g : am_H), k + m = 361 → wf g → g.2.2.2 110 = a → mI g a f → (∀ i, i < k → dI g a f (g.2.2.2 119 i) 7) → (k : Int) ≤ g.2.2.2 109 29 → (∃ j : Nat, (j : Int) < g.2.2.2 109 29 ∧ g.2.2.2 119 j = stA a) → fr [114, 115, 119, 120, 123] [(109, 29)] h g → am_R (am_prog scr) (d + 5) f_M_laysStands 37 [some (.inr (.inr ((109 : Nat) : Int))), some (.inl ((k : Int))), none, none] [] g Q := by
    intro m
    induction m with
    | zero => intro k g hk wg ag y p kc z fg; have := y.1; omega
    | succ m ih =>
      intro k g hk wg ag y p kc z fg
      refine w_M_laysStands_37 hs wg ⟨fun c => ?_, fun c => ?_⟩
      · have ek : (k : Int) = g.2.2.2 109 29 := by omega
        have cl : ∀ n st, rchN a f n st → ∃ i : Nat, (i : Int) < g.2.2.2 109 29 ∧ g.2.2.2 119 i = st := by
          intro n
          induction n with
          | zero => intro st q; rw [q]; exact z
          | succ n ihn =>
            intro st q
            obtain ⟨s, e, h1, h2, h3, h4⟩ := q
            obtain ⟨i, i1, i2⟩ := ihn s h1
            have r4 := r.1.1
            have := (p i (by omega) e.toNat (by omega)).2
            rw [i2, show ((e.toNat : Nat) : Int) = e by omega] at this
            rw [h4]
            exact this ⟨h2, h3.2⟩
        refine H g wg fg ⟨y.1, y.2.1, fun st ⟨n, hn⟩ => cl n st hn, y.2.2.2, fun st ⟨n, hn⟩ e he => ?_⟩
        obtain ⟨i, i1, i2⟩ := cl n st hn
        have := (p i (by omega) e he).1
        rw [i2] at this
        exact this
      · refine k_ms_47 (h := h) (st := g.2.2.2 119 k) hs r (fun g2 w2 a2 y2 p2 kc2 ks2 d2 z2 f2 => ?_) 7 0 g rfl wg ag y p c rfl (fun e' he' => by omega) z fg
        refine ih (k + 1) g2 (by omega) w2 a2 y2 (fun i hi => ?_) (by omega) z2 f2
        by_cases q : i = k
        · rw [q, ks2]; exact d2
        · exact p2 i (by omega)
  refine w_M_laysStands_0 hs hw ?_
  refine down (n := 360) (I := fillI h 123 0 (fun _ => 0)) (R := fun i g => am_R (am_prog scr) (d + 5) f_M_laysStands 2 [some (.inr (.inr ((109 : Nat) : Int))), some (.inl ((i : Int))), none, none] [] g Q) ?_ ?_ 360 0 h rfl (fillI.zero hw)
  · intro g hI
    have ag : g.2.2.2 110 = a := (hI.other 110 (by omega)).trans ha
    refine w_M_laysStands_2 hs hI.1 ⟨fun _ g1 e1 => ?_, fun c => by omega⟩
    have w1 : wf g1 := by rw [e1]; exact hI.1.put np_109_29
    have f1 : fr [] [(109, 29)] g g1 := by rw [e1]; exact fr.rfl.put (Or.inr (by decide))
    have a1 : g1.2.2.2 110 = a := (f1.c 110 (by simp) (by decide)).trans ag
    refine k_standNowA hs w1 a1 r ⟨_, rfl, w1, ?_⟩
    have v29 : g1.2.2.2 109 29 = 0 := by rw [e1]; exact put_eq
    have y1 : mI g1 a f := by
      unfold mI
      rw [v29]
      refine ⟨by omega, fun i hi => by omega, fun n hn => Or.inl ⟨?_, fun i hi => by omega⟩, fun i j _ hj => by omega⟩
      rw [f1.c 123 (by simp) (by decide), hI.2.2 n, if_pos (by omega)]
    refine k_adds hs w1 r y1 Rch.zero (fun g4 w4 f4 y4 le4 old4 in4 => ⟨rfl, w4, ?_⟩)
    have := y4.1
    exact lp 361 0 g4 rfl w4 ((f4.c 110 (by decide) (by decide)).trans a1) y4 (fun i hi => by omega) (by omega) in4 (((hI.2.1.mono (by decide) (by simp)).trans (f1.mono (by simp) (by decide))).trans (f4.mono (by decide) (by decide)))
  · intro i g hi hI k
    refine w_M_laysStands_2 hs hI.1 ⟨fun c => by omega, fun c => ⟨by omega, fun g1 q1 y hy => ?_⟩⟩
    rw [am_w_id (by omega) (by omega)] at hy
    subst hy
    refine k g1 ?_
    rw [q1]
    exact hI.put (by decide +kernel) (by omega) rfl
end SK
