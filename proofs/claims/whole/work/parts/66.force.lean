/-! forcing, by turns -/
def fN (a : Nat → Int) (f : Nat → (Nat → Int) → Int) : Nat → Bool → Int → Prop
  | 0, _, st => actI st = a 3
  | k + 1, b, st => actI st = a 3 ∨ (¬ ovT a st ∧ ((b = true ∧ ∃ e, (0 ≤ e ∧ e ≤ a 4) ∧ fN a f k false (Tr a f st e)) ∨ (b = false ∧ ∀ e, 0 ≤ e → e ≤ a 4 → fN a f k true (Tr a f st e))))
def isF (a : Nat → Int) (f : Nat → (Nat → Int) → Int) (b : Bool) (st v : Int) : Prop := (v = 268435456 ∧ ∀ k, ¬ fN a f k b st) ∨ ((0 ≤ v ∧ v < 268435456) ∧ fN a f v.toNat b st ∧ ∀ k : Nat, (k : Int) < v → ¬ fN a f k b st)
def bestP (a : Nat → Int) (f : Nat → (Nat → Int) → Int) (z : Int) : Prop := ∃ v, isF a f true (stA a) v ∧ (((v = 0 ∨ v = 268435456) ∧ z = -1) ∨ ((0 < v ∧ v < 268435456) ∧ leastE a f (fun s => isF a f false s (v - 1)) (stA a) z))
section FN
variable {a : Nat → Int} {f : Nat → (Nat → Int) → Int} {B : Int}
theorem fN_succ : ∀ (k : Nat) (b : Bool) (st : Int), fN a f k b st → fN a f (k + 1) b st := by
  intro k
  induction k with
  | zero => intro b st h; exact Or.inl h
  | succ k ih =>
    intro b st h
    rcases h with h | ⟨h1, h2 | h2⟩
    · exact Or.inl h
    · obtain ⟨hb, e, h3, h4⟩ := h2
      exact Or.inr ⟨h1, Or.inl ⟨hb, e, h3, ih _ _ h4⟩⟩
    · exact Or.inr ⟨h1, Or.inr ⟨h2.1, fun e e1 e2 => ih _ _ (h2.2 e e1 e2)⟩⟩
theorem fN_le {k n : Nat} {b : Bool} {st : Int} (hk : k ≤ n) (h : fN a f k b st) : fN a f n b st := by
  induction hk with
  | refl => exact h
  | step _ ih => exact fN_succ _ _ _ ih
theorem isF.uniq {b : Bool} {st v v' : Int} (x : isF a f b st v) (y : isF a f b st v') : v = v' := by
  rcases x with ⟨x1, x2⟩ | ⟨x1, x2, x3⟩ <;> rcases y with ⟨y1, y2⟩ | ⟨y1, y2, y3⟩
  · omega
  · exact absurd y2 (x2 _)
  · exact absurd x2 (y2 _)
  · rcases Int.lt_trichotomy v v' with q | q | q
    · exact absurd x2 (y3 v.toNat (by omega))
    · exact q
    · exact absurd y2 (x3 v'.toNat (by omega))
theorem bestP.uniq {z z' : Int} (x : bestP a f z) (y : bestP a f z') : z = z' := by
  obtain ⟨v, x1, x2⟩ := x
  obtain ⟨v', y1, y2⟩ := y
  have e := x1.uniq y1
  subst e
  rcases x2 with x2 | x2 <;> rcases y2 with y2 | y2
  · omega
  · omega
  · omega
  · exact x2.2.uniq y2.2
/-- at just m -/
def exF (a : Nat → Int) (f : Nat → (Nat → Int) → Int) (m : Nat) (b : Bool) (st : Int) : Prop := fN a f m b st ∧ ∀ k, k < m → ¬ fN a f k b st
theorem exF_min : ∀ (k : Nat) {b : Bool} {st : Int}, fN a f k b st → ∃ m, m ≤ k ∧ exF a f m b st := by
  intro k
  induction k using Nat.strongRecOn with
  | _ k ih =>
    intro b st h
    by_cases q : ∃ j, j < k ∧ fN a f j b st
    · obtain ⟨j, hj, hd⟩ := q
      obtain ⟨m, m1, m2⟩ := ih j hj hd
      exact ⟨m, by omega, m2⟩
    · exact ⟨k, by omega, h, fun j hj hd => q ⟨j, hj, hd⟩⟩
/-- the way from m to m - 1 -/
theorem exF_down (h4 : 0 ≤ a 4) {m : Nat} {b : Bool} {st : Int} (x : exF a f (m + 1) b st) : ¬ ovT a st ∧ ∃ e, (0 ≤ e ∧ e ≤ a 4) ∧ exF a f m (!b) (Tr a f st e) := by
  obtain ⟨x1, x2⟩ := x
  have n0 := x2 0 (by omega)
  rcases x1 with x1 | ⟨h1, h2 | h2⟩
  · exact absurd x1 n0
  · obtain ⟨hb, e, h3, h5⟩ := h2
    subst hb
    refine ⟨h1, e, h3, h5, fun k hk c => x2 (k + 1) (by omega) (Or.inr ⟨h1, Or.inl ⟨rfl, e, h3, c⟩⟩)⟩
  · obtain ⟨hb, h3⟩ := h2
    subst hb
    refine ⟨h1, ?_⟩
    apply Classical.byContradiction
    intro c
    -- then all would be nearer
    cases m with
    | zero =>
      exact c ⟨0, ⟨by omega, h4⟩, h3 0 (by omega) h4, fun k hk => by omega⟩
    | succ m =>
      refine x2 (m + 1) (by omega) (Or.inr ⟨h1, Or.inr ⟨rfl, fun e e1 e2 => ?_⟩⟩)
      apply Classical.byContradiction
      intro c2
      refine c ⟨e, ⟨e1, e2⟩, h3 e e1 e2, fun k hk c3 => c2 (fN_le (by omega) c3)⟩
theorem exF_path (h4 : 0 ≤ a 4) : ∀ (m : Nat) {b : Bool} {st : Int}, Rch a f st → exF a f m b st → ∃ (p : Nat → Int) (q : Nat → Bool), p 0 = st ∧ q 0 = b ∧ ∀ i, i ≤ m → Rch a f (p i) ∧ exF a f (m - i) (q i) (p i) ∧ (i < m → ¬ ovT a (p i)) := by
  intro m
  induction m with
  | zero => intro b st hr hd; exact ⟨fun _ => st, fun _ => b, rfl, rfl, fun i hi => ⟨hr, by rw [show 0 - i = 0 by omega]; exact hd, fun hi2 => by omega⟩⟩
  | succ m ih =>
    intro b st hr hd
    obtain ⟨h1, e, h2, h3⟩ := exF_down h4 hd
    obtain ⟨p, q, p0, q0, pi⟩ := ih (hr.step h1 h2) h3
    refine ⟨fun i => match i with
      | 0 => st
      | i + 1 => p i, fun i => match i with
      | 0 => b
      | i + 1 => q i, rfl, rfl, fun i hi => ?_⟩
    match i, hi with
    | 0, _ => exact ⟨hr, hd, fun _ => h1⟩
    | i + 1, hi =>
      have := pi i (by omega)
      rw [show m + 1 - (i + 1) = m - i by omega]
      exact ⟨this.1, this.2.1, fun q => this.2.2 (by omega)⟩
theorem fN_small (r : rok a f B) {k : Nat} {b : Bool} {st : Int} (hr : Rch a f st) (hd : fN a f k b st) : ∃ m, m ≤ k ∧ m ≤ 288 ∧ exF a f m b st := by
  obtain ⟨m, m1, m2⟩ := exF_min k hd
  refine ⟨m, m1, ?_, m2⟩
  obtain ⟨p, q, p0, q0, pi⟩ := exF_path r.1.1.1 m hr m2
  exact pigeon 288 m (fun i => 2 * (nodeS (p i)).toNat + (if q i = true then 1 else 0)) (fun i hi => by
    have := pi i (by omega)
    have := on_144 r (this.1.ok r) (this.2.2 hi)
    show 2 * (nodeS (p i)).toNat + (if q i = true then 1 else 0) < 288
    split <;> omega) (fun i j hij hj e => by
    have h1 := pi i (by omega)
    have h2 := pi j (by omega)
    have b1 := on_144 r (h1.1.ok r) (h1.2.2 (by omega))
    have b2 := on_144 r (h2.1.ok r) (h2.2.2 hj)
    have e : 2 * (nodeS (p i)).toNat + (if q i = true then 1 else 0) = 2 * (nodeS (p j)).toNat + (if q j = true then 1 else 0) := e
    have eq : q i = q j := by
      cases h3 : q i <;> cases h5 : q j <;> rw [h3, h5] at e <;> simp at e <;> first | rfl | omega
    rw [eq] at e
    have es : p i = p j := nodeS_inj (h1.1.ok r).1 (h2.1.ok r).1 (fun q => h1.2.2 (by omega) (Or.inr q)) (by omega)
    have := h2.2.1.1
    rw [← es, ← eq] at this
    exact h1.2.1.2 (m - j) (by omega) this)
theorem isF.of {m : Nat} {b : Bool} {st : Int} (x : exF a f m b st) (hm : m < 268435456) : isF a f b st m := Or.inr ⟨by omega, by rw [Int.toNat_natCast]; exact x.1, fun k hk => x.2 k (by omega)⟩
end FN
def fcI (h : am_H) (a : Nat → Int) (f : Nat → (Nat → Int) → Int) : Prop := ∀ st, Rch a f st → ((0 ≤ h.2.2.2 121 st.toNat ∧ h.2.2.2 121 st.toNat ≤ 268435456) ∧ (0 ≤ h.2.2.2 122 st.toNat ∧ h.2.2.2 122 st.toNat ≤ 268435456)) ∧ (actI st = a 3 → h.2.2.2 121 st.toNat = 0 ∧ h.2.2.2 122 st.toNat = 0) ∧ (h.2.2.2 121 st.toNat < 268435456 → fN a f (h.2.2.2 121 st.toNat).toNat true st) ∧ (h.2.2.2 122 st.toNat < 268435456 → fN a f (h.2.2.2 122 st.toNat).toNat false st)
/-- what the other one is told -/
def oaP (h : am_H) (a : Nat → Int) (f : Nat → (Nat → Int) → Int) (st z : Int) : Prop := (ovT a st ∧ z = h.2.2.2 122 st.toNat) ∨ (¬ ovT a st ∧ ((z = 268435456 ∧ ∃ e, (0 ≤ e ∧ e ≤ a 4) ∧ h.2.2.2 121 (Tr a f st e).toNat = 268435456) ∨ ((∀ e, 0 ≤ e → e ≤ a 4 → h.2.2.2 121 (Tr a f st e).toNat ≠ 268435456 ∧ h.2.2.2 121 (Tr a f st e).toNat + 1 ≤ z) ∧ ∃ e, (0 ≤ e ∧ e ≤ a 4) ∧ z = h.2.2.2 121 (Tr a f st e).toNat + 1)))
section FC
variable {scr : Nat × (Nat → Int)} {d : Nat} {h : am_H} {Q : Option am_V → am_H → Prop} {a : Nat → Int} {f : Nat → (Nat → Int) → Int} {B : Int}
theorem k_firstBy {st : Int} {e : Nat} (hs : am_sc scr) (hw : wf h) (r : rok a f B) (x : msP h a f) (hr : Rch a f st) (he : e < 7) (hb : ∀ s, Rch a f s → 0 ≤ h.2.2.2 122 s.toNat ∧ h.2.2.2 122 s.toNat ≤ 268435456) (H : Q (some (.inl (fbV h 122 a f st e))) h) : am_R (am_prog scr) d f_M_firstBy 0 [some (.inr (.inr ((109 : Nat) : Int))), some (.inl (st)), some (.inl ((e : Int))), none] [] h Q := by
  have so := (hr.ok r).1
  have e7 : am_w (am_w (7 * st) + (e : Int)) = 7 * st + (e : Int) := by simp (disch := omega) only [am_w_id, am_W_id]
  refine w_M_firstBy_0 hs hw ?_
  rw [e7, x.2.2.2.2 st hr e he]
  unfold fbV at H
  refine ⟨by omega, fun y hy => ?_⟩
  subst hy
  rcases thV_r r hr e with q | ⟨q1, q2, _⟩
  · rw [if_pos q] at H
    exact ⟨fun _ => H, fun c => absurd q c⟩
  · rw [if_neg (by omega)] at H
    refine ⟨fun c => by omega, fun _ => ⟨q2, fun c => ⟨q2, ?_⟩, fun c => ?_⟩⟩
    · rw [if_neg c] at H
      have := hb _ q1
      rw [am_w_id (by omega) (by omega)]; exact H
    · rw [if_pos c] at H; exact H
theorem k_otherAt {st : Int} (hs : am_sc scr) (hw : wf h) (ha : h.2.2.2 110 = a) (r : rok a f B) (x : msP h a f) (hr : Rch a f st) (hb : ∀ s, Rch a f s → 0 ≤ h.2.2.2 121 s.toNat ∧ h.2.2.2 121 s.toNat ≤ 268435456) (H : ∀ z, oaP h a f st z → Q (some (.inl (z))) h) : am_R (am_prog scr) (d + 3) f_M_otherAt 0 [some (.inr (.inr ((109 : Nat) : Int))), some (.inl (st)), none, none, none] [] h Q := by
  have so := (hr.ok r).1
  have h4 := r.1.1
  refine w_M_otherAt_0 hs hw ?_
  refine k_isOverT hs hw ha so ⟨_, rfl, hw, fun c => ?_, fun c => ⟨so, ?_⟩⟩
  · rw [i0] at c
    have lp : ∀ (m e : Nat) (z : Int), e + m = 7 → (∀ e', 0 ≤ e' → e' < (e : Int) → e' ≤ a 4 → h.2.2.2 121 (Tr a f st e').toNat ≠ 268435456 ∧ h.2.2.2 121 (Tr a f st e').toNat + 1 ≤ z) → ((e = 0 ∧ z = 0) ∨ ∃ e', (0 ≤ e' ∧ e' ≤ a 4) ∧ z = h.2.2.2 121 (Tr a f st e').toNat + 1) → 0 ≤ z → am_R (am_prog scr) (d + 3) f_M_otherAt 19 [some (.inr (.inr ((109 : Nat) : Int))), some (.inl (st)), some (.inl (z)), some (.inl ((e : Int))), none] [] h Q := by
      intro m
      induction m with
      | zero =>
        intro e z he p q hz
        refine w_M_otherAt_19 hs hw ⟨fun _ => H z (Or.inr ⟨c, Or.inr ⟨fun e' h1 h2 => p e' h1 (by omega) h2, ?_⟩⟩), fun c => by omega⟩
        rcases q with q | q
        · omega
        · exact q
      | succ m ih =>
        intro e z he p q hz
        have e7 : am_w (am_w (7 * st) + (e : Int)) = 7 * st + (e : Int) := by simp (disch := omega) only [am_w_id, am_W_id]
        refine w_M_otherAt_19 hs hw ⟨fun c2 => by omega, fun _ => ?_⟩
        rw [e7, x.2.2.2.2 st hr e (by omega)]
        refine ⟨by omega, fun y hy => ?_⟩
        subst hy
        rcases thV_r r hr e with q1 | ⟨q1, q2, q3, q4, q5⟩
        · refine ⟨fun c2 => absurd q1 c2, fun _ y hy => ?_⟩
          have big : ¬ (e : Int) ≤ a 4 := by
            intro c2
            unfold thV at q1
            rw [if_pos ⟨c, c2⟩] at q1
            have := (Tr_ok r (deed := (e : Int)) (hr.ok r) c).1
            omega
          rw [am_w_id (by omega) (by omega)] at hy
          obtain rfl : y = ((e + 1 : Nat) : Int) := by omega
          refine ih (e + 1) z (by omega) (fun e' h1 h2 h3 => p e' h1 (by omega) h3) ?_ hz
          rcases q with q | q
          · omega
          · exact Or.inr q
        · rw [q5] at q1 q2 ⊢
          have bb := hb _ q1
          refine ⟨fun _ => ⟨q2, fun c2 => ⟨q2, fun c3 y hy => ?_, fun c3 => ⟨q2, fun y7 h7 y8 h8 => ?_⟩⟩, fun c2 => ?_⟩, fun c2 => by omega⟩
          · rw [am_w_id (by omega) (by omega)] at c3 hy
            obtain rfl : y = ((e + 1 : Nat) : Int) := by omega
            refine ih (e + 1) z (by omega) (fun e' h1 h2 h3 => ?_) ?_ hz
            · by_cases q6 : e' = e
              · rw [q6]; exact ⟨c2, c3⟩
              · exact p e' h1 (by omega) h3
            · rcases q with q | q
              · exact Or.inr ⟨(e : Int), ⟨by omega, q4⟩, by omega⟩
              · exact Or.inr q
          · rw [am_w_id (by omega) (by omega)] at c3 h7 h8
            obtain rfl : y8 = ((e + 1 : Nat) : Int) := by omega
            refine ih (e + 1) y7 (by omega) (fun e' h1 h2 h3 => ?_) (Or.inr ⟨(e : Int), ⟨by omega, q4⟩, h7⟩) (by omega)
            by_cases q6 : e' = e
            · rw [q6]; exact ⟨c2, by omega⟩
            · have := p e' h1 (by omega) h3
              exact ⟨this.1, by omega⟩
          · exact H _ (Or.inr ⟨c, Or.inl ⟨rfl, (e : Int), ⟨by omega, q4⟩, c2⟩⟩)
    exact lp 7 0 0 rfl (fun e' h1 h2 => by omega) (Or.inl ⟨rfl, rfl⟩) (by omega)
  · rw [i0, Decidable.not_not] at c
    exact H _ (Or.inl ⟨c, rfl⟩)
theorem fcI.b2 (x : fcI h a f) : ∀ s, Rch a f s → 0 ≤ h.2.2.2 122 s.toNat ∧ h.2.2.2 122 s.toNat ≤ 268435456 := fun s hr => (x s hr).1.2
theorem fcI.b1 (x : fcI h a f) : ∀ s, Rch a f s → 0 ≤ h.2.2.2 121 s.toNat ∧ h.2.2.2 121 s.toNat ≤ 268435456 := fun s hr => (x s hr).1.1
def psC (b g : am_H) (a : Nat → Int) (f : Nat → (Nat → Int) → Int) (fl : Int) (i : Nat) : Prop := wf g ∧ g.2.2.2 110 = a ∧ msP g a f ∧ fcI g a f ∧ fr [121, 122] [] b g ∧ ((fl = 0 ∧ (∀ j : Nat, (∃ s, Rch a f s ∧ j = s.toNat) → g.2.2.2 121 j = b.2.2.2 121 j ∧ g.2.2.2 122 j = b.2.2.2 122 j) ∧ ∀ j : Nat, j < i → (j : Int) < g.2.2.2 109 29 → (∀ e : Nat, e < 7 → g.2.2.2 121 (g.2.2.2 119 j).toNat ≤ fbV g 122 a f (g.2.2.2 119 j) e) ∧ ∃ z, oaP g a f (g.2.2.2 119 j) z ∧ g.2.2.2 122 (g.2.2.2 119 j).toNat ≤ z) ∨ (fl = 1 ∧ muI g 121 + muI g 122 < muI b 121 + muI b 122))
theorem sumN_congr {u v : Nat → Nat} : ∀ {n : Nat}, (∀ i, i < n → v i = u i) → sumN v n = sumN u n := by
  intro n
  induction n with
  | zero => intro _; rfl
  | succ n ih => intro h; simp only [sumN]; rw [ih (fun i hi => h i (by omega)), h n (by omega)]
theorem k_force_83 {b : am_H} (hs : am_sc scr) (r : rok a f B) (K : ∀ (g : am_H) (fl : Int), psC b g a f fl (g.2.2.2 109 29).toNat → am_R (am_prog scr) (d + 4) f_M_laysForce 75 [some (.inr (.inr ((109 : Nat) : Int))), some (.inl (fl)), none, none, none, none] [] g Q) : ∀ (m i : Nat) (g : am_H) (fl : Int), (i : Int) + m = g.2.2.2 109 29 → psC b g a f fl i → am_R (am_prog scr) (d + 4) f_M_laysForce 83 [some (.inr (.inr ((109 : Nat) : Int))), some (.inl (fl)), some (.inl ((i : Int))), none, none, none] [] g Q := by
  intro m
  induction m with
  | zero =>
    intro i g fl hi x
    refine w_M_laysForce_83 hs x.1 ⟨fun _ => K g fl (by rw [show (g.2.2.2 109 29).toNat = i by omega]; exact x), fun c => by omega⟩
  | succ m ih =>
    intro i g fl hi x
    obtain ⟨x1, x2, x3, x4, x5, x6⟩ := x
    have c29 := x3.1
    have hr := x3.2.1 i (by omega)
    have so := (hr.ok r).1
    have fb := x4 _ hr
    generalize hst : g.2.2.2 119 i = st at hr so fb
    have flb : fl = 0 ∨ fl = 1 := by rcases x6 with q | q <;> omega
    -- both numbers are set: the next place
    have fin : ∀ (least other v fl2 : Int) (g10 : am_H), g10 = am_put (am_put g 121 st.toNat least) 122 st.toNat v → oaP g a f st other → (least ≤ g.2.2.2 121 st.toNat ∧ ∀ e : Nat, e < 7 → least ≤ fbV g 122 a f st e) → (least = g.2.2.2 121 st.toNat ∨ ∃ e : Nat, e < 7 ∧ least = fbV g 122 a f st e) → v = (if other < g.2.2.2 122 st.toNat then other else g.2.2.2 122 st.toNat) → fl2 = (if least < g.2.2.2 121 st.toNat ∨ other < g.2.2.2 122 st.toNat then 1 else fl) → ∀ y, y = am_w ((i : Int) + 1) → am_R (am_prog scr) (d + 4) f_M_laysForce 83 [some (.inr (.inr ((109 : Nat) : Int))), some (.inl (fl2)), some (.inl (y)), none, none, none] [] g10 Q := by
      intro least other v fl2 g10 e10 hoa hle hex hv hfl y hy
      rw [am_w_id (by omega) (by omega)] at hy
      obtain rfl : y = ((i + 1 : Nat) : Int) := by omega
      have f10 : fr [121, 122] [] g g10 := by rw [e10]; exact (fr.rfl.put (Or.inl (by decide))).put (Or.inl (by decide))
      have c109 : g10.2.2.2 109 = g.2.2.2 109 := f10.c 109 (by decide) (by simp)
      have c119 : g10.2.2.2 119 = g.2.2.2 119 := f10.c 119 (by decide) (by simp)
      have c121 : ∀ j, g10.2.2.2 121 j = if j = st.toNat then least else g.2.2.2 121 j := by
        intro j; rw [e10, put_ne (by omega)]; simp only [put_at, true_and]
      have c122 : ∀ j, g10.2.2.2 122 j = if j = st.toNat then v else g.2.2.2 122 j := by
        intro j
        rw [e10]
        simp only [put_at, true_and]
        rw [if_neg (show ¬ ((122 : Nat) = 121 ∧ j = st.toNat) by omega)]
      have l0 : 0 ≤ least := by
        rcases hex with q | ⟨e, e1, e2⟩
        · omega
        · rw [e2]
          unfold fbV
          rcases thV_r r hr e with q | ⟨q1, _⟩
          · rw [if_pos q]; omega
          · have := (x4 _ q1).1.2
            split
            · omega
            · split <;> omega
      have o0 : 0 ≤ other := by
        rcases hoa with ⟨_, q⟩ | ⟨ho, ⟨q, _⟩ | ⟨_, e, e1, e2⟩⟩
        · omega
        · omega
        · have := (x4 _ (hr.step ho e1)).1.1
          omega
      -- the numbers are true
      have tl : least < 268435456 → fN a f least.toNat true st := by
        intro hl
        rcases hex with q | ⟨e, e1, e2⟩
        · rw [q]; exact fb.2.2.1 (by omega)
        · unfold fbV at e2
          rcases thV_r r hr e with q | ⟨q1, q2, q3, q4, q5⟩
          · rw [if_pos q] at e2; omega
          · rw [if_neg (by omega)] at e2
            by_cases q6 : g.2.2.2 122 (thV a f st e).toNat = 268435456
            · rw [if_pos q6] at e2; omega
            · rw [if_neg q6] at e2
              have b1 := x4 _ q1
              rw [e2, show (g.2.2.2 122 (thV a f st e).toNat + 1).toNat = (g.2.2.2 122 (thV a f st e).toNat).toNat + 1 by omega]
              refine Or.inr ⟨q3, Or.inl ⟨rfl, (e : Int), ⟨by omega, q4⟩, ?_⟩⟩
              rw [← q5]
              exact b1.2.2.2 (by omega)
      have tv : v < 268435456 → fN a f v.toNat false st := by
        intro hl
        by_cases q : other < g.2.2.2 122 st.toNat
        · rw [if_pos q] at hv
          rcases hoa with ⟨_, z⟩ | ⟨ho, ⟨z, _⟩ | ⟨z, e, e1, e2⟩⟩
          · omega
          · omega
          · have pos : 1 ≤ other := by have := (x4 _ (hr.step ho e1)).1.1; omega
            rw [hv]
            obtain ⟨m', hm'⟩ : ∃ m', other.toNat = m' + 1 := ⟨other.toNat - 1, by omega⟩
            rw [hm']
            refine Or.inr ⟨ho, Or.inr ⟨rfl, fun e' h1 h2 => ?_⟩⟩
            have zz := z e' h1 h2
            have b1 := x4 _ (hr.step ho ⟨h1, h2⟩)
            exact fN_le (by omega) (b1.2.2.1 (by omega))
        · rw [if_neg q] at hv
          rw [hv]; exact fb.2.2.2 (by omega)
      have xm : msP g10 a f := x3.fr (by rw [c109]) c119 (f10.c 120 (by decide) (by simp))
      have y4 : fcI g10 a f := by
        intro s hr2
        rw [c121, c122]
        by_cases q : s.toNat = st.toNat
        · have es : s = st := by have := (hr2.ok r).1; omega
          subst es
          rw [if_pos rfl, if_pos rfl]
          refine ⟨⟨by omega, ?_⟩, fun c => ?_, tl, tv⟩
          · rw [hv]; split <;> omega
          · have := fb.2.1 c
            rw [hv]
            split <;> omega
        · rw [if_neg q, if_neg q]; exact x4 s hr2
      refine ih (i + 1) g10 fl2 (by rw [c109]; omega) ⟨by rw [e10]; exact (x1.pa (by decide +kernel)).pa (by decide +kernel), (f10.c 110 (by decide) (by simp)).trans x2, xm, y4, x5.trans f10, ?_⟩
      -- of which cells the sums are
      have other_j : ∀ j : Nat, j < (g.2.2.2 109 29).toNat → j ≠ i → (g.2.2.2 119 j).toNat ≠ st.toNat := by
        intro j hj hne q
        have rj := ((x3.2.1 j (by omega)).ok r).1
        have es : g.2.2.2 119 j = g.2.2.2 119 i := by rw [hst]; omega
        rcases Nat.lt_or_ge j i with q2 | q2
        · exact x3.2.2.2.1 j i q2 (by omega) es
        · exact x3.2.2.2.1 i j (by omega) (by omega) es.symm
      have le : muI g 121 + muI g 122 ≤ muI b 121 + muI b 122 := by
        rcases x6 with ⟨_, y2, _⟩ | ⟨_, y2⟩
        · have c1 : g.2.2.2 109 = b.2.2.2 109 := x5.c 109 (by decide) (by simp)
          have c2 : g.2.2.2 119 = b.2.2.2 119 := x5.c 119 (by decide) (by simp)
          have s1 : muI g 121 = muI b 121 := by
            unfold muI
            rw [← c1, ← c2]
            exact sumN_congr (fun j hj => by
              show (g.2.2.2 121 (g.2.2.2 119 j).toNat).toNat = (b.2.2.2 121 (g.2.2.2 119 j).toNat).toNat
              rw [(y2 _ ⟨_, x3.2.1 j (by omega), rfl⟩).1])
          have s2 : muI g 122 = muI b 122 := by
            unfold muI
            rw [← c1, ← c2]
            exact sumN_congr (fun j hj => by
              show (g.2.2.2 122 (g.2.2.2 119 j).toNat).toNat = (b.2.2.2 122 (g.2.2.2 119 j).toNat).toNat
              rw [(y2 _ ⟨_, x3.2.1 j (by omega), rfl⟩).2])
          omega
        · omega
      have vle : v ≤ g.2.2.2 122 st.toNat := by rw [hv]; split <;> omega
      have v0 : 0 ≤ v := by rw [hv]; split <;> omega
      have m1 : muI g10 121 ≤ muI g 121 ∧ (least < g.2.2.2 121 st.toNat → muI g10 121 < muI g 121) := by
        have lt : least < g.2.2.2 121 st.toNat → muI g10 121 < muI g 121 := by
          intro hl
          unfold muI
          rw [c109, c119]
          refine sumN_lt (k := i) (by omega) (fun j hj hne => ?_) ?_
          · show (g10.2.2.2 121 (g.2.2.2 119 j).toNat).toNat = (g.2.2.2 121 (g.2.2.2 119 j).toNat).toNat
            rw [c121, if_neg (other_j j hj hne)]
          · show (g10.2.2.2 121 (g.2.2.2 119 i).toNat).toNat < (g.2.2.2 121 (g.2.2.2 119 i).toNat).toNat
            rw [hst, c121, if_pos rfl]
            omega
        refine ⟨?_, lt⟩
        by_cases q : least < g.2.2.2 121 st.toNat
        · have := lt q; omega
        · have : muI g10 121 = muI g 121 := by
            unfold muI
            rw [c109, c119]
            exact sumN_congr (fun j hj => by
              show (g10.2.2.2 121 (g.2.2.2 119 j).toNat).toNat = (g.2.2.2 121 (g.2.2.2 119 j).toNat).toNat
              rw [c121]
              by_cases q2 : (g.2.2.2 119 j).toNat = st.toNat
              · rw [if_pos q2, q2]; omega
              · rw [if_neg q2])
          omega
      have m2 : muI g10 122 ≤ muI g 122 ∧ (other < g.2.2.2 122 st.toNat → muI g10 122 < muI g 122) := by
        have lt : other < g.2.2.2 122 st.toNat → muI g10 122 < muI g 122 := by
          intro hl
          rw [if_pos hl] at hv
          unfold muI
          rw [c109, c119]
          refine sumN_lt (k := i) (by omega) (fun j hj hne => ?_) ?_
          · show (g10.2.2.2 122 (g.2.2.2 119 j).toNat).toNat = (g.2.2.2 122 (g.2.2.2 119 j).toNat).toNat
            rw [c122, if_neg (other_j j hj hne)]
          · show (g10.2.2.2 122 (g.2.2.2 119 i).toNat).toNat < (g.2.2.2 122 (g.2.2.2 119 i).toNat).toNat
            rw [hst, c122, if_pos rfl]
            omega
        refine ⟨?_, lt⟩
        by_cases q : other < g.2.2.2 122 st.toNat
        · have := lt q; omega
        · rw [if_neg q] at hv
          have : muI g10 122 = muI g 122 := by
            unfold muI
            rw [c109, c119]
            exact sumN_congr (fun j hj => by
              show (g10.2.2.2 122 (g.2.2.2 119 j).toNat).toNat = (g.2.2.2 122 (g.2.2.2 119 j).toNat).toNat
              rw [c122]
              by_cases q2 : (g.2.2.2 119 j).toNat = st.toNat
              · rw [if_pos q2, q2]; omega
              · rw [if_neg q2])
          omega
      by_cases ch : least < g.2.2.2 121 st.toNat ∨ other < g.2.2.2 122 st.toNat
      · rw [if_pos ch] at hfl
        refine Or.inr ⟨hfl, ?_⟩
        rcases ch with q | q
        · have := m1.2 q; have := m2.1; omega
        · have := m2.2 q; have := m1.1; omega
      · rw [if_neg ch] at hfl
        have n1 : least = g.2.2.2 121 st.toNat := by omega
        have n2 : v = g.2.2.2 122 st.toNat := by rw [hv, if_neg (by omega)]
        have s1 : g10.2.2.2 121 = g.2.2.2 121 := funext fun j => by
          rw [c121]
          by_cases q : j = st.toNat
          · rw [if_pos q, q, n1]
          · rw [if_neg q]
        have s2 : g10.2.2.2 122 = g.2.2.2 122 := funext fun j => by
          rw [c122]
          by_cases q : j = st.toNat
          · rw [if_pos q, q, n2]
          · rw [if_neg q]
        have fbe : ∀ s e, fbV g10 122 a f s e = fbV g 122 a f s e := fun s e => by unfold fbV; rw [s2]
        have oae : ∀ s z, oaP g a f s z → oaP g10 a f s z := fun s z hz => by unfold oaP at hz ⊢; rw [s1, s2]; exact hz
        rcases x6 with ⟨y1, y2, y3⟩ | ⟨y1, y2⟩
        · refine Or.inl ⟨by omega, fun j hj => by rw [s1, s2]; exact y2 j hj, fun j hj h1 => ?_⟩
          rw [s1, s2, c119]
          by_cases q : j = i
          · rw [q, hst]
            exact ⟨fun e he => by rw [fbe]; have := hle.2 e he; omega, other, oae _ _ hoa, by omega⟩
          · rw [c109] at h1
            obtain ⟨z1, z, z2, z3⟩ := y3 j (by omega) h1
            exact ⟨fun e he => by rw [fbe]; exact z1 e he, z, oae _ _ z2, z3⟩
        · refine Or.inr ⟨by omega, ?_⟩
          have := m1.1
          have := m2.1
          omega
    have mid : ∀ (n e : Nat) (least : Int), e + n = 7 → (least ≤ g.2.2.2 121 st.toNat ∧ ∀ e' : Nat, e' < e → least ≤ fbV g 122 a f st e') → (least = g.2.2.2 121 st.toNat ∨ ∃ e' : Nat, e' < 7 ∧ least = fbV g 122 a f st e') → am_R (am_prog scr) (d + 4) f_M_laysForce 109 [some (.inr (.inr ((109 : Nat) : Int))), some (.inl (fl)), some (.inl ((i : Int))), some (.inl (st)), some (.inl (least)), some (.inl ((e : Int)))] [] g Q := by
      intro n
      induction n with
      | zero =>
        intro e least he hle hex
        refine w_M_laysForce_109 hs x1 ⟨fun _ => ?_, fun c => by omega⟩
        refine k_otherAt hs x1 x2 r x3 hr x4.b1 (fun other hoa => ⟨_, rfl, x1, so, ?_⟩)
        have hle7 : least ≤ g.2.2.2 121 st.toNat ∧ ∀ e : Nat, e < 7 → least ≤ fbV g 122 a f st e := ⟨hle.1, fun e' h1 => hle.2 e' (by omega)⟩
        have or1 : am_or fl 1 = 1 := by rcases flb with q | q <;> subst q <;> decide +kernel
        have or0 : am_or fl 0 = fl := by rcases flb with q | q <;> subst q <;> decide +kernel
        have r122 : ∀ v, (am_put g 121 st.toNat v).2.2.2 122 st.toNat = g.2.2.2 122 st.toNat := fun v => put_ne (by omega)
        have tail : ∀ (fl2 : Int) (h6 : am_H), h6 = am_put g 121 st.toNat least → fl2 = (if least < g.2.2.2 121 st.toNat ∨ other < g.2.2.2 122 st.toNat then 1 else fl) → ((0 ≤ st ∧ st < 360) ∧ ((¬ (other < (h6.2.2.2 122 st.toNat)) → ((0 ≤ st ∧ st < 360) ∧ (((0 ≤ st ∧ st < 360)) ∧ (∀ h10 : am_H, h10 = am_put h6 122 st.toNat (h6.2.2.2 122 st.toNat) → (∀ y11 : Int, y11 = am_w ((i : Int) + 1) → (am_R (am_prog scr) (d + 4) f_M_laysForce 83 [some (.inr (.inr ((109 : Nat) : Int))), some (.inl (fl2)), some (.inl (y11)), none, none, none] [] h10 Q)))))) ∧ (other < (h6.2.2.2 122 st.toNat) → (((0 ≤ st ∧ st < 360)) ∧ (∀ h13 : am_H, h13 = am_put h6 122 st.toNat other → (∀ y14 : Int, y14 = am_w ((i : Int) + 1) → (am_R (am_prog scr) (d + 4) f_M_laysForce 83 [some (.inr (.inr ((109 : Nat) : Int))), some (.inl (fl2)), some (.inl (y14)), none, none, none] [] h13 Q))))))) := by
          intro fl2 h6 e6 hfl
          subst e6
          rw [r122]
          refine ⟨so, fun c => ⟨so, so, fun g10 e10 y hy => ?_⟩, fun c => ⟨so, fun g10 e10 y hy => ?_⟩⟩
          · exact fin least other _ fl2 g10 e10 hoa hle7 hex (by rw [if_neg c]) hfl y hy
          · exact fin least other _ fl2 g10 e10 hoa hle7 hex (by rw [if_pos c]) hfl y hy
        refine ⟨fun c y4 h4 => ⟨so, fun h6 e6 => ?_⟩, fun c => ⟨so, fun c2 y h4 => ⟨so, fun h6 e6 => ?_⟩, fun c2 y h4 => ⟨so, fun h6 e6 => ?_⟩⟩⟩
        · rw [or1] at h4; subst h4
          exact tail 1 h6 e6 (by rw [if_pos (Or.inl c)])
        · rw [or0] at h4; subst h4
          exact tail _ h6 e6 (by rw [if_neg (fun q => by rcases q with q | q <;> omega)])
        · rw [or1] at h4; subst h4
          exact tail 1 h6 e6 (by rw [if_pos (Or.inr c2)])
      | succ n ihn =>
        intro e least he hle hex
        refine w_M_laysForce_109 hs x1 ⟨fun c => by omega, fun _ => ?_⟩
        refine k_firstBy hs x1 r x3 hr (by omega) x4.b2 ⟨_, rfl, x1, fun c y hy => ?_, fun c => ?_⟩
        · rw [am_w_id (by omega) (by omega)] at hy
          obtain rfl : y = ((e + 1 : Nat) : Int) := by omega
          refine ihn (e + 1) least (by omega) ⟨hle.1, fun e' h1 => ?_⟩ hex
          by_cases q : e' = e
          · rw [q]; omega
          · exact hle.2 e' (by omega)
        · refine k_firstBy hs x1 r x3 hr (by omega) x4.b2 ⟨_, rfl, x1, fun y hy => ?_⟩
          rw [am_w_id (by omega) (by omega)] at hy
          obtain rfl : y = ((e + 1 : Nat) : Int) := by omega
          refine ihn (e + 1) _ (by omega) ⟨by omega, fun e' h1 => ?_⟩ (Or.inr ⟨e, by omega, rfl⟩)
          by_cases q : e' = e
          · rw [q]; omega
          · have := hle.2 e' (by omega); omega
    refine w_M_laysForce_83 hs x1 ⟨fun c => by omega, fun _ => ⟨by omega, fun y2 h2 => ?_⟩⟩
    rw [Int.toNat_natCast, hst] at h2
    subst h2
    refine ⟨so, fun y4 h4 => ?_⟩
    subst h4
    exact mid 7 0 _ rfl ⟨by omega, fun e' h1 => by omega⟩ (Or.inl rfl)
theorem force_done (r : rok a f B) {g : am_H} (x : msP g a f) (y : fcI g a f) (z : ∀ j : Nat, (j : Int) < g.2.2.2 109 29 → (∀ e : Nat, e < 7 → g.2.2.2 121 (g.2.2.2 119 j).toNat ≤ fbV g 122 a f (g.2.2.2 119 j) e) ∧ ∃ z, oaP g a f (g.2.2.2 119 j) z ∧ g.2.2.2 122 (g.2.2.2 119 j).toNat ≤ z) : ∀ st, Rch a f st → isF a f true st (g.2.2.2 121 st.toNat) ∧ isF a f false st (g.2.2.2 122 st.toNat) := by
  have low : ∀ (k : Nat) (b : Bool) (st : Int), k ≤ 400 → Rch a f st → fN a f k b st → (b = true → g.2.2.2 121 st.toNat ≤ k) ∧ (b = false → g.2.2.2 122 st.toNat ≤ k) := by
    intro k
    induction k with
    | zero => intro b st _ hr hd; have := (y st hr).2.1 hd; exact ⟨fun _ => by omega, fun _ => by omega⟩
    | succ k ih =>
      intro b st hk hr hd
      have h4 := r.1.1
      obtain ⟨i, i1, i2⟩ := x.2.2.1 st hr
      have zz := z i i1
      rw [i2] at zz
      rcases hd with hd | ⟨h1, ⟨hb, e, h2, h3⟩ | ⟨hb, h2⟩⟩
      · have := (y st hr).2.1 hd; exact ⟨fun _ => by omega, fun _ => by omega⟩
      · subst hb
        refine ⟨fun _ => ?_, fun c => by cases c⟩
        have ee : ((e.toNat : Nat) : Int) = e := by omega
        have t := hr.step (e := e) h1 h2
        have := (ih false _ (by omega) t h3).2 rfl
        have tb := (t.ok r).1
        have z1 := zz.1 e.toNat (by omega)
        unfold fbV at z1
        have tv : thV a f st e.toNat = Tr a f st e := by unfold thV; rw [ee, if_pos ⟨h1, h2.2⟩]
        rw [tv, if_neg (by omega), if_neg (by omega)] at z1
        omega
      · subst hb
        refine ⟨fun c => by (cases c), fun _ => ?_⟩
        obtain ⟨v, v1, v2⟩ := zz.2
        rcases v1 with ⟨o, _⟩ | ⟨_, ⟨_, e, e1, e2⟩ | ⟨_, e, e1, e2⟩⟩
        · exact absurd o h1
        · have := (ih true _ (by omega) (hr.step (e := e) h1 e1) (h2 e e1.1 e1.2)).1 rfl
          omega
        · have := (ih true _ (by omega) (hr.step (e := e) h1 e1) (h2 e e1.1 e1.2)).1 rfl
          omega
  have low2 : ∀ (k : Nat) (b : Bool) (st : Int), Rch a f st → fN a f k b st → (b = true → g.2.2.2 121 st.toNat ≤ k ∧ g.2.2.2 121 st.toNat ≤ 288) ∧ (b = false → g.2.2.2 122 st.toNat ≤ k ∧ g.2.2.2 122 st.toNat ≤ 288) := by
    intro k b st hr hd
    obtain ⟨m, m1, m2, m3⟩ := fN_small r hr hd
    have := low m b st (by omega) hr m3.1
    exact ⟨fun q => by have := this.1 q; omega, fun q => by have := this.2 q; omega⟩
  intro st hr
  have yb := y st hr
  constructor
  · by_cases q : g.2.2.2 121 st.toNat = 268435456
    · exact Or.inl ⟨q, fun k hk => by have := (low2 k true st hr hk).1 rfl; omega⟩
    · exact Or.inr ⟨by omega, yb.2.2.1 (by omega), fun k hk c => by have := (low2 k true st hr c).1 rfl; omega⟩
  · by_cases q : g.2.2.2 122 st.toNat = 268435456
    · exact Or.inl ⟨q, fun k hk => by have := (low2 k false st hr hk).2 rfl; omega⟩
    · exact Or.inr ⟨by omega, yb.2.2.2 (by omega), fun k hk c => by have := (low2 k false st hr c).2 rfl; omega⟩
def fcD (g : am_H) (a : Nat → Int) (f : Nat → (Nat → Int) → Int) : Prop := ∀ st, Rch a f st → isF a f true st (g.2.2.2 121 st.toNat) ∧ isF a f false st (g.2.2.2 122 st.toNat)
theorem k_force_75 (hs : am_sc scr) (r : rok a f B) {b0 : am_H} (H : ∀ g, wf g → fr [121, 122] [] b0 g → msP g a f → fcD g a f → Q (some (.inl (g.2.2.2 121 (stA a).toNat))) g) : ∀ (N : Nat) (b : am_H), muI b 121 + muI b 122 ≤ N → wf b → b.2.2.2 110 = a → msP b a f → fcI b a f → fr [121, 122] [] b0 b → am_R (am_prog scr) (d + 4) f_M_laysForce 75 [some (.inr (.inr ((109 : Nat) : Int))), some (.inl (1)), none, none, none, none] [] b Q := by
  intro N
  induction N using Nat.strongRecOn with
  | _ N ih =>
    intro b hN wb ab xb yb fb
    have c29 := xb.1
    refine w_M_laysForce_75 hs wb ⟨fun c => by omega, fun _ => ?_⟩
    refine k_force_83 (b := b) hs r (fun g fl x => ?_) (b.2.2.2 109 29).toNat 0 b 0 (by omega) ⟨wb, ab, xb, yb, fr.rfl, Or.inl ⟨rfl, fun _ _ => ⟨rfl, rfl⟩, fun j hj => by omega⟩⟩
    obtain ⟨x1, x2, x3, x4, x5, x6⟩ := x
    rcases x6 with ⟨y1, y2, y3⟩ | ⟨y1, y2⟩
    · subst y1
      refine w_M_laysForce_75 hs x1 ⟨fun _ => ?_, fun c => by omega⟩
      refine k_standNowA hs x1 x2 r ⟨_, rfl, x1, r.st.1, ?_⟩
      exact H g x1 (fb.trans x5) x3 (force_done r x3 x4 (fun j hj => y3 j (by omega) hj))
    · subst y1
      exact ih (muI g 121 + muI g 122) (by omega) g (by omega) x1 x2 x3 x4 (fb.trans x5)
theorem k_laysForce (hs : am_sc scr) (hw : wf h) (ha : h.2.2.2 110 = a) (r : rok a f B) (H : ∀ g, wf g → fr [114, 115, 119, 120, 121, 122, 123] [(109, 29)] h g → msP g a f → fcD g a f → Q (some (.inl (g.2.2.2 121 (stA a).toNat))) g) : am_R (am_prog scr) (d + 6) f_M_laysForce 0 [some (.inr (.inr ((109 : Nat) : Int))), none, none, none, none, none] [] h Q := by
  refine w_M_laysForce_0 hs hw ?_
  refine k_laysStands hs hw ha r (fun b0 w0 f0 x0 => ⟨rfl, w0, ?_⟩)
  have a0 : b0.2.2.2 110 = a := (f0.c 110 (by decide) (by decide)).trans ha
  have c29 := x0.1
  have lp : ∀ (m k : Nat) (g : am_H), (k : Int) + m = b0.2.2.2 109 29 → wf g → fr [121, 122] [] b0 g → (∀ i : Nat, i < k → g.2.2.2 121 (b0.2.2.2 119 i).toNat = (if actI (b0.2.2.2 119 i) = a 3 then 0 else 268435456) ∧ g.2.2.2 122 (b0.2.2.2 119 i).toNat = (if actI (b0.2.2.2 119 i) = a 3 then 0 else 268435456)) → am_R (am_prog scr) (d + 6) f_M_laysForce 6 [some (.inr (.inr ((109 : Nat) : Int))), some (.inl ((k : Int))), none, none, none, none] [] g Q := by
    intro m
    induction m with
    | zero =>
      intro k g hk wg fg p
      have c109 : g.2.2.2 109 = b0.2.2.2 109 := fg.c 109 (by decide) (by simp)
      have xg : msP g a f := x0.fr (by rw [c109]) (fg.c 119 (by decide) (by simp)) (fg.c 120 (by decide) (by simp))
      refine w_M_laysForce_6 hs wg ?_
      rw [c109]
      refine ⟨fun _ => ?_, fun c => by omega⟩
      refine (k_force_75 (d := d + 2) hs r (b0 := b0) (fun g2 w2 f2 x2 z2 => H g2 w2 ((f0.mono (by decide) (by decide)).trans (f2.mono (by decide) (by simp))) x2 z2) (muI g 121 + muI g 122) g (by omega) wg ((fg.c 110 (by decide) (by simp)).trans a0) xg (fun st hr => ?_) fg)
      obtain ⟨i, i1, i2⟩ := x0.2.2.1 st hr
      have := p i (by omega)
      rw [i2] at this
      rw [this.1, this.2]
      by_cases q : actI st = a 3
      · rw [if_pos q]; exact ⟨by omega, fun _ => ⟨rfl, rfl⟩, fun _ => q, fun _ => q⟩
      · rw [if_neg q]; exact ⟨by omega, fun c => absurd c q, fun c => by omega, fun c => by omega⟩
    | succ m ih =>
      intro k g hk wg fg p
      have c109 : g.2.2.2 109 = b0.2.2.2 109 := fg.c 109 (by decide) (by simp)
      have c119 : g.2.2.2 119 = b0.2.2.2 119 := fg.c 119 (by decide) (by simp)
      have hr := x0.2.1 k (by omega)
      have so := (hr.ok r).1
      refine w_M_laysForce_6 hs wg ?_
      rw [c109, c119, Int.toNat_natCast]
      have nx : ∀ (v : Int) (h6 g2 : am_H), v = (if actI (b0.2.2.2 119 k) = a 3 then 0 else 268435456) → h6 = am_put g 121 (b0.2.2.2 119 k).toNat v → g2 = am_put h6 122 (b0.2.2.2 119 k).toNat (h6.2.2.2 121 (b0.2.2.2 119 k).toNat) → ∀ y, y = am_w ((k : Int) + 1) → am_R (am_prog scr) (d + 6) f_M_laysForce 6 [some (.inr (.inr ((109 : Nat) : Int))), some (.inl (y)), none, none, none, none] [] g2 Q := by
        intro v h6 g2 hv e6 e2 y hy
        have v6 : h6.2.2.2 121 (b0.2.2.2 119 k).toNat = v := by rw [e6]; exact put_eq
        rw [v6] at e2
        rw [am_w_id (by omega) (by omega)] at hy
        obtain rfl : y = ((k + 1 : Nat) : Int) := by omega
        refine ih (k + 1) g2 (by omega) (by rw [e2, e6]; exact (wg.pa (by decide +kernel)).pa (by decide +kernel)) (fg.trans (by rw [e2, e6]; exact (fr.rfl.put (Or.inl (by decide))).put (Or.inl (by decide)))) (fun i hi => ?_)
        have ne : i ≠ k → ¬ (b0.2.2.2 119 i).toNat = (b0.2.2.2 119 k).toNat := by
          intro q c
          have ri := ((x0.2.1 i (by omega)).ok r).1
          exact x0.2.2.2.1 i k (by omega) (by omega) (by omega)
        rw [e2, e6]
        simp only [put_at, true_and]
        rw [if_neg (show ¬ ((121 : Nat) = 122 ∧ (b0.2.2.2 119 i).toNat = (b0.2.2.2 119 k).toNat) by omega), if_neg (show ¬ ((122 : Nat) = 121 ∧ (b0.2.2.2 119 i).toNat = (b0.2.2.2 119 k).toNat) by omega)]
        by_cases q : i = k
        · rw [q, if_pos rfl, if_pos rfl]; exact ⟨hv, hv⟩
        · rw [if_neg (ne q), if_neg (ne q)]
          exact p i (by omega)
      have r119 : ∀ v, (am_put g 121 (b0.2.2.2 119 k).toNat v).2.2.2 119 k = b0.2.2.2 119 k := fun v => by rw [put_ne (by omega), c119]
      refine ⟨fun c => by omega, fun _ => ⟨by omega, by omega, ?_⟩⟩
      refine k_hasEnded hs wg so ⟨_, rfl, wg, ?_⟩
      rw [(fg.c 110 (by decide) (by simp)).trans a0]
      refine ⟨fun c => ⟨so, fun h6 e6 => ?_⟩, fun c => ⟨so, fun h6 e6 => ?_⟩⟩
      · rw [i0] at c
        have : h6.2.2.2 119 k = b0.2.2.2 119 k := by rw [e6]; exact r119 _
        rw [this]
        exact ⟨by omega, by omega, so, so, fun g2 e2 y hy => nx _ h6 g2 (by rw [if_neg c]) e6 e2 y hy⟩
      · rw [i0, Decidable.not_not] at c
        have : h6.2.2.2 119 k = b0.2.2.2 119 k := by rw [e6]; exact r119 _
        rw [this]
        exact ⟨by omega, by omega, so, so, fun g2 e2 y hy => nx _ h6 g2 (by rw [if_pos c]) e6 e2 y hy⟩
  exact lp (b0.2.2.2 109 29).toNat 0 b0 (by omega) w0 fr.rfl (fun i hi => by omega)
theorem k_Mforces (hs : am_sc scr) (hw : wf h) (ha : h.2.2.2 110 = a) (r : rok a f B) (H : ∀ g z, wf g → fr [114, 115, 119, 120, 121, 122, 123] [(109, 0), (109, 29)] h g → (∃ v, isF a f true (stA a) v ∧ z = if v = 268435456 then -1 else v) → Q (some (.inl (z))) g) : am_R (am_prog scr) (d + 7) f_M_forces 0 [some (.inr (.inr ((109 : Nat) : Int)))] [] h Q := by
  refine w_M_forces_0 hs hw (fun g1 q1 => ?_)
  have w1 : wf g1 := by rw [q1]; exact (put0 hw).1
  have f0 : fr [] [(109, 0)] h g1 := by rw [q1]; exact (put0 hw).2
  have a1 : g1.2.2.2 110 = a := (f0.c 110 (by simp) (by decide)).trans ha
  have f1 : fr [114, 115, 119, 120, 121, 122, 123] [(109, 0), (109, 29)] h g1 := f0.mono (by simp) (by decide)
  refine k_laysForce hs w1 a1 r (fun g wg fg x z => ⟨_, rfl, wg, ?_⟩)
  have HH := fun z2 e => H g z2 wg (f1.trans (fg.mono (by decide) (by decide))) ⟨_, (z _ Rch.zero).1, e⟩
  refine w_M_toldFar_0 hs wg ⟨fun c2 => ⟨_, rfl, wg, HH _ (by rw [if_neg c2])⟩, fun c2 => ⟨_, rfl, wg, HH _ (by rw [if_pos c2])⟩⟩
theorem k_Mbest (hs : am_sc scr) (hw : wf h) (ha : h.2.2.2 110 = a) (r : rok a f B) (H : ∀ g z, wf g → fr [114, 115, 119, 120, 121, 122, 123] [(109, 0), (109, 29)] h g → bestP a f z → Q (some (.inl (z))) g) : am_R (am_prog scr) (d + 7) f_M_best 0 [some (.inr (.inr ((109 : Nat) : Int))), none, none] [] h Q := by
  refine w_M_best_0 hs hw (fun g1 q1 => ?_)
  have w1 : wf g1 := by rw [q1]; exact (put0 hw).1
  have f0 : fr [] [(109, 0)] h g1 := by rw [q1]; exact (put0 hw).2
  have a1 : g1.2.2.2 110 = a := (f0.c 110 (by simp) (by decide)).trans ha
  have f1 : fr [114, 115, 119, 120, 121, 122, 123] [(109, 0), (109, 29)] h g1 := f0.mono (by simp) (by decide)
  refine k_laysForce hs w1 a1 r (fun g wg fg x z => ⟨_, rfl, wg, ?_⟩)
  have ag : g.2.2.2 110 = a := (fg.c 110 (by decide) (by decide)).trans a1
  have HH := fun z2 e => H g z2 wg (f1.trans (fg.mono (by decide) (by decide))) e
  have v1 := (z _ Rch.zero).1
  have st := r.st.1
  have bb : ∀ s, Rch a f s → 0 ≤ g.2.2.2 122 s.toNat ∧ g.2.2.2 122 s.toNat ≤ 268435456 := fun s hs2 => by
    rcases (z s hs2).2 with ⟨q, _⟩ | ⟨q, _⟩ <;> omega
  have iff : ∀ e : Nat, 0 < g.2.2.2 121 (stA a).toNat → g.2.2.2 121 (stA a).toNat < 268435456 → (fbV g 122 a f (stA a) e = g.2.2.2 121 (stA a).toNat ↔ (¬ ovT a (stA a) ∧ (e : Int) ≤ a 4) ∧ isF a f false (Tr a f (stA a) e) (g.2.2.2 121 (stA a).toNat - 1)) := by
    intro e h1 h2
    unfold fbV
    rcases thV_r r Rch.zero e with q | ⟨q1, q2, q3, q4, q5⟩
    · rw [if_pos q]
      refine ⟨fun c => by omega, fun c => ?_⟩
      have t : thV a f (stA a) e = Tr a f (stA a) e := by unfold thV; rw [if_pos c.1]
      have := (Rch.zero.step (e := (e : Int)) c.1.1 ⟨by omega, c.1.2⟩).ok r
      rw [← t, q] at this
      have := this.1
      omega
    · rw [if_neg (by omega)]
      have yy := (z _ q1).2
      rw [q5] at yy ⊢
      by_cases q6 : g.2.2.2 122 (Tr a f (stA a) e).toNat = 268435456
      · rw [if_pos q6]
        refine ⟨fun c => by omega, fun c => ?_⟩
        have := yy.uniq c.2
        omega
      · rw [if_neg q6]
        refine ⟨fun c => ⟨⟨q3, q4⟩, ?_⟩, fun c => ?_⟩
        · rw [show g.2.2.2 121 (stA a).toNat - 1 = g.2.2.2 122 (Tr a f (stA a) e).toNat by omega]; exact yy
        · have := yy.uniq c.2
          omega
  have lp : ∀ (m e : Nat), e + m = 7 → (∀ e' : Nat, e' < e → 0 < g.2.2.2 121 (stA a).toNat → g.2.2.2 121 (stA a).toNat < 268435456 → ¬ fbV g 122 a f (stA a) e' = g.2.2.2 121 (stA a).toNat) → am_R (am_prog scr) (d + 7) f_M_best 12 [some (.inr (.inr ((109 : Nat) : Int))), some (.inl (g.2.2.2 121 (stA a).toNat)), some (.inl ((e : Int)))] [] g Q := by
    intro m
    induction m with
    | zero =>
      intro e he p
      refine w_M_best_12 hs wg ⟨fun _ => HH _ ⟨_, v1, ?_⟩, fun c => by omega⟩
      by_cases q : 0 < g.2.2.2 121 (stA a).toNat ∧ g.2.2.2 121 (stA a).toNat < 268435456
      · exfalso
        have ex : exF a f ((g.2.2.2 121 (stA a).toNat - 1).toNat + 1) true (stA a) := by
          rcases v1 with ⟨c, _⟩ | ⟨_, c1, c2⟩
          · omega
          · rw [show (g.2.2.2 121 (stA a).toNat - 1).toNat + 1 = (g.2.2.2 121 (stA a).toNat).toNat by omega]
            exact ⟨c1, fun k hk => c2 k (by omega)⟩
        obtain ⟨o, e', e1, e2⟩ := exF_down r.1.1.1 ex
        have h4 := r.1.1
        have := p e'.toNat (by omega) q.1 q.2
        apply this
        rw [iff _ q.1 q.2, show ((e'.toNat : Nat) : Int) = e' by omega]
        refine ⟨⟨o, e1.2⟩, ?_⟩
        have := isF.of e2 (by omega)
        rw [show (((g.2.2.2 121 (stA a).toNat - 1).toNat : Nat) : Int) = g.2.2.2 121 (stA a).toNat - 1 by omega] at this
        exact this
      · refine Or.inl ⟨?_, rfl⟩
        rcases v1 with ⟨c, _⟩ | ⟨c, _⟩ <;> omega
    | succ m ih =>
      intro e he p
      have v0 : 0 ≤ g.2.2.2 121 (stA a).toNat ∧ g.2.2.2 121 (stA a).toNat ≤ 268435456 := by rcases v1 with ⟨c, _⟩ | ⟨c, _⟩ <;> omega
      refine w_M_best_12 hs wg ⟨fun c => by omega, fun _ => ⟨fun c => HH _ ⟨_, v1, Or.inl ⟨by omega, rfl⟩⟩, fun c => ⟨fun c2 => HH _ ⟨_, v1, Or.inl ⟨by omega, rfl⟩⟩, fun c2 => ?_⟩⟩⟩
      refine k_standNowA hs wg ag r ⟨_, rfl, wg, ?_⟩
      refine k_firstBy hs wg r x Rch.zero (by omega) bb ⟨_, rfl, wg, fun c3 y hy => ?_, fun c3 => ?_⟩
      · rw [am_w_id (by omega) (by omega)] at hy
        obtain rfl : y = ((e + 1 : Nat) : Int) := by omega
        refine ih (e + 1) (by omega) (fun e' h1 h2 h3 => ?_)
        by_cases q : e' = e
        · rw [q]; exact c3
        · exact p e' (by omega) h2 h3
      · have c4 := (iff e (by omega) c2).mp c3
        refine HH _ ⟨_, v1, Or.inr ⟨by omega, ⟨by omega, c4.1.2⟩, c4.2, fun e' h1 h2 c5 => ?_⟩⟩
        have h4 := r.1.1
        refine p e'.toNat (by omega) (by omega) c2 ((iff _ (by omega) c2).mpr ?_)
        rw [show ((e'.toNat : Nat) : Int) = e' by omega]
        exact ⟨⟨c4.1.1, by omega⟩, c5⟩
  exact lp 7 0 rfl (fun e' h1 => by omega)
end FC
