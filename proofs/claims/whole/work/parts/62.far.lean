/-! fewest beats: what is meant, and the reference -/
def soB (a : Nat → Int) (w st : Int) : Bool := if w = 0 then decide (actI st = a 3) else if w = 1 then decide (¬ actI st = a 3 ∧ st % 2 = 1) else decide (¬ ovT a st)
def dN (a : Nat → Int) (f : Nat → (Nat → Int) → Int) (w : Int) : Nat → Int → Prop
  | 0, st => soB a w st = true
  | k + 1, st => soB a w st = true ∨ (¬ ovT a st ∧ ∃ e, (0 ≤ e ∧ e ≤ a 4) ∧ dN a f w k (Tr a f st e))
def isD (a : Nat → Int) (f : Nat → (Nat → Int) → Int) (w st v : Int) : Prop := (v = 268435456 ∧ ∀ k, ¬ dN a f w k st) ∨ ((0 ≤ v ∧ v < 268435456) ∧ dN a f w v.toNat st ∧ ∀ k : Nat, (k : Int) < v → ¬ dN a f w k st)
def leastE (a : Nat → Int) (f : Nat → (Nat → Int) → Int) (P : Int → Prop) (st e : Int) : Prop := (0 ≤ e ∧ e ≤ a 4) ∧ P (Tr a f st e) ∧ ∀ e', 0 ≤ e' → e' < e → ¬ P (Tr a f st e')
def wayP (a : Nat → Int) (f : Nat → (Nat → Int) → Int) (w : Int) : Nat → Int → Int → Prop
  | 0, st, z => ∃ v, isD a f w st v ∧ (((v = 0 ∨ v = 268435456) ∧ z = -1) ∨ ((0 < v ∧ v < 268435456) ∧ leastE a f (fun s => isD a f w s (v - 1)) st z))
  | i + 1, st, z => ∃ v, isD a f w st v ∧ (((v = 0 ∨ v = 268435456) ∧ z = -1) ∨ ((0 < v ∧ v < 268435456) ∧ ∃ e, leastE a f (fun s => isD a f w s (v - 1)) st e ∧ wayP a f w i (Tr a f st e) z))
def sumN (u : Nat → Nat) : Nat → Nat
  | 0 => 0
  | n + 1 => sumN u n + u n
theorem sumN_lt {u v : Nat → Nat} : ∀ {n k : Nat}, k < n → (∀ i, i < n → i ≠ k → v i = u i) → v k < u k → sumN v n < sumN u n := by
  intro n
  induction n with
  | zero => intro k hk; omega
  | succ n ih =>
    intro k hk h1 h2
    simp only [sumN]
    by_cases q : k = n
    · subst q
      have : ∀ m, m ≤ k → sumN v m = sumN u m := by
        intro m
        induction m with
        | zero => intro _; rfl
        | succ m ihm => intro hm; simp only [sumN]; rw [ihm (by omega), h1 m (by omega) (by omega)]
      rw [this k (by omega)]
      omega
    · rw [h1 n (by omega) (by omega)]
      have := ih (k := k) (by omega) (fun i hi hk => h1 i (by omega) hk) h2
      omega
section DD
variable {a : Nat → Int} {f : Nat → (Nat → Int) → Int} {w B : Int}
theorem dN_succ : ∀ (k : Nat) (st : Int), dN a f w k st → dN a f w (k + 1) st := by
  intro k
  induction k with
  | zero => intro st h; exact Or.inl h
  | succ k ih =>
    intro st h
    rcases h with h | ⟨h1, e, h2, h3⟩
    · exact Or.inl h
    · exact Or.inr ⟨h1, e, h2, ih _ h3⟩
theorem dN_le {k n : Nat} {st : Int} (hk : k ≤ n) (h : dN a f w k st) : dN a f w n st := by
  induction hk with
  | refl => exact h
  | step _ ih => exact dN_succ _ _ ih
theorem isD.uniq {st v v' : Int} (x : isD a f w st v) (y : isD a f w st v') : v = v' := by
  rcases x with ⟨x1, x2⟩ | ⟨x1, x2, x3⟩ <;> rcases y with ⟨y1, y2⟩ | ⟨y1, y2, y3⟩
  · omega
  · exact absurd y2 (x2 _)
  · exact absurd x2 (y2 _)
  · rcases Int.lt_trichotomy v v' with q | q | q
    · exact absurd x2 (y3 v.toNat (by omega))
    · exact q
    · exact absurd y2 (x3 v'.toNat (by omega))
theorem leastE.uniq {P : Int → Prop} {st e e' : Int} (x : leastE a f P st e) (y : leastE a f P st e') : e = e' := by
  rcases Int.lt_trichotomy e e' with q | q | q
  · exact absurd x.2.1 (y.2.2 e x.1.1 q)
  · exact q
  · exact absurd y.2.1 (x.2.2 e' y.1.1 q)
theorem wayP.uniq : ∀ (i : Nat) {st z z' : Int}, wayP a f w i st z → wayP a f w i st z' → z = z' := by
  intro i
  induction i with
  | zero =>
    intro st z z' ⟨v, x1, x2⟩ ⟨v', y1, y2⟩
    have e := x1.uniq y1
    subst e
    rcases x2 with x2 | x2 <;> rcases y2 with y2 | y2
    · omega
    · omega
    · omega
    · exact x2.2.uniq y2.2
  | succ i ih =>
    intro st z z' ⟨v, x1, x2⟩ ⟨v', y1, y2⟩
    have e := x1.uniq y1
    subst e
    rcases x2 with x2 | ⟨x2, e1, x3, x4⟩ <;> rcases y2 with y2 | ⟨y2, e2, y3, y4⟩
    · omega
    · omega
    · omega
    · have := x3.uniq y3
      subst this
      exact ih x4 y4
/-- one beat nearer -/
theorem isD.down {st v : Int} (x : isD a f w st v) (hv : 0 < v ∧ v < 268435456) : ¬ ovT a st ∧ (∃ e, (0 ≤ e ∧ e ≤ a 4) ∧ isD a f w (Tr a f st e) (v - 1)) := by
  rcases x with ⟨x1, _⟩ | ⟨x1, x2, x3⟩
  · omega
  · have n0 := x3 0 (by omega)
    obtain ⟨m, hm⟩ : ∃ m, v.toNat = m + 1 := ⟨v.toNat - 1, by omega⟩
    rw [hm] at x2
    rcases x2 with q | ⟨q1, e, q2, q3⟩
    · exact absurd q n0
    · refine ⟨q1, e, q2, Or.inr ⟨by omega, ?_, fun k hk c => ?_⟩⟩
      · rw [show (v - 1).toNat = m by omega]; exact q3
      · exact x3 (k + 1) (by omega) (Or.inr ⟨q1, e, q2, c⟩)
theorem dN_min : ∀ (k : Nat) {st : Int}, dN a f w k st → ∃ m, m ≤ k ∧ dN a f w m st ∧ ∀ j, j < m → ¬ dN a f w j st := by
  intro k
  induction k using Nat.strongRecOn with
  | _ k ih =>
    intro st h
    by_cases q : ∃ j, j < k ∧ dN a f w j st
    · obtain ⟨j, hj, hd⟩ := q
      obtain ⟨m, m1, m2, m3⟩ := ih j hj hd
      exact ⟨m, by omega, m2, m3⟩
    · exact ⟨k, by omega, h, fun j hj hd => q ⟨j, hj, hd⟩⟩
theorem dN_path : ∀ (m : Nat) {st : Int}, Rch a f st → dN a f w m st → (∀ k, k < m → ¬ dN a f w k st) → ∃ p : Nat → Int, p 0 = st ∧ ∀ i, i ≤ m → Rch a f (p i) ∧ dN a f w (m - i) (p i) ∧ (∀ k, k < m - i → ¬ dN a f w k (p i)) ∧ (i < m → ¬ ovT a (p i)) := by
  intro m
  induction m with
  | zero => intro st hr hd hm; exact ⟨fun _ => st, rfl, fun i hi => ⟨hr, by rw [show 0 - i = 0 by omega]; exact hd, fun k hk => by omega, fun hi2 => by omega⟩⟩
  | succ m ih =>
    intro st hr hd hm
    have h0 := hm 0 (by omega)
    have hd0 := hd
    rcases hd with hd | ⟨h1, e, h2, h3⟩
    · exact absurd hd h0
    · obtain ⟨p, p0, pi⟩ := ih (hr.step h1 h2) h3 (fun k hk c => hm (k + 1) (by omega) (Or.inr ⟨h1, e, h2, c⟩))
      refine ⟨fun i => match i with
        | 0 => st
        | i + 1 => p i, rfl, fun i hi => ?_⟩
      match i, hi with
      | 0, _ => exact ⟨hr, hd0, hm, fun _ => h1⟩
      | i + 1, hi =>
        have := pi i (by omega)
        rw [show m + 1 - (i + 1) = m - i by omega]
        exact ⟨this.1, this.2.1, this.2.2.1, fun q => this.2.2.2 (by omega)⟩
/-- if at all, then soon -/
theorem dN_small (r : rok a f B) {k : Nat} {st : Int} (hr : Rch a f st) (hd : dN a f w k st) : ∃ m, m ≤ k ∧ m ≤ 144 ∧ dN a f w m st ∧ ∀ j, j < m → ¬ dN a f w j st := by
  obtain ⟨m, m1, m2, m3⟩ := dN_min k hd
  refine ⟨m, m1, ?_, m2, m3⟩
  obtain ⟨p, p0, pi⟩ := dN_path m hr m2 m3
  exact pigeon 144 m (fun i => (nodeS (p i)).toNat) (fun i hi => by
    have := pi i (by omega)
    have := on_144 r (this.1.ok r) (this.2.2.2 hi)
    show (nodeS (p i)).toNat < 144
    omega) (fun i j hij hj e => by
    have h1 := pi i (by omega)
    have h2 := pi j (by omega)
    have b1 := on_144 r (h1.1.ok r) (h1.2.2.2 (by omega))
    have b2 := on_144 r (h2.1.ok r) (h2.2.2.2 hj)
    have e : (nodeS (p i)).toNat = (nodeS (p j)).toNat := e
    have es : p i = p j := nodeS_inj (h1.1.ok r).1 (h2.1.ok r).1 (fun q => h1.2.2.2 (by omega) (Or.inr q)) (by omega)
    have := h2.2.1
    rw [← es] at this
    exact h1.2.2.1 (m - j) (by omega) this)
end DD
/-- by which number of beats, if deed e comes first, as cell c has it -/
def fbV (h : am_H) (c : Nat) (a : Nat → Int) (f : Nat → (Nat → Int) → Int) (st : Int) (e : Nat) : Int := if thV a f st e = -1 then 268435456 else if h.2.2.2 c (thV a f st e).toNat = 268435456 then 268435456 else h.2.2.2 c (thV a f st e).toNat + 1
def fI (h : am_H) (a : Nat → Int) (f : Nat → (Nat → Int) → Int) (w : Int) : Prop := ∀ st, Rch a f st → (0 ≤ h.2.2.2 121 st.toNat ∧ h.2.2.2 121 st.toNat ≤ 268435456) ∧ (soB a w st = true → h.2.2.2 121 st.toNat = 0) ∧ (h.2.2.2 121 st.toNat < 268435456 → dN a f w (h.2.2.2 121 st.toNat).toNat st)
def muI (h : am_H) (c : Nat) : Nat := sumN (fun i => (h.2.2.2 c (h.2.2.2 119 i).toNat).toNat) (h.2.2.2 109 29).toNat
section FA
variable {scr : Nat × (Nat → Int)} {d : Nat} {h : am_H} {Q : Option am_V → am_H → Prop} {a : Nat → Int} {f : Nat → (Nat → Int) → Int} {w B : Int}
theorem thV_r (r : rok a f B) {st : Int} (hr : Rch a f st) (e : Nat) : thV a f st e = -1 ∨ (Rch a f (thV a f st e) ∧ (0 ≤ thV a f st e ∧ thV a f st e < 360) ∧ ¬ ovT a st ∧ (e : Int) ≤ a 4 ∧ thV a f st e = Tr a f st e) := by
  by_cases q : ¬ ovT a st ∧ (e : Int) ≤ a 4
  · have t : thV a f st e = Tr a f st e := by unfold thV; rw [if_pos q]
    have := hr.step (e := (e : Int)) q.1 ⟨by omega, q.2⟩
    rw [t]
    exact Or.inr ⟨this, (this.ok r).1, q.1, q.2, rfl⟩
  · exact Or.inl (by unfold thV; rw [if_neg q])
theorem k_isSo {st : Int} (hs : am_sc scr) (hw : wf h) (ha : h.2.2.2 110 = a) (h2 : 0 ≤ st ∧ st < 360) (H : Q (some (.inl (if soB a w st = true then 1 else 0))) h) : am_R (am_prog scr) (d + 3) f_M_isSo 0 [some (.inr (.inr ((109 : Nat) : Int))), some (.inl (st)), some (.inl (w))] [] h Q := by
  unfold soB at H
  refine w_M_isSo_0 hs hw ⟨fun c => ⟨fun c2 => ?_, fun c2 => ?_⟩, fun c => ?_⟩
  · rw [if_neg c, if_neg c2] at H
    refine k_isOverT hs hw ha h2 ⟨_, rfl, hw, fun c3 => ?_, fun c3 => ?_⟩
    · rw [i0, Decidable.not_not] at c3
      simp only [decide_eq_true_eq] at H
      rw [if_neg (fun q => q c3)] at H; exact H
    · rw [i0] at c3
      simp only [decide_eq_true_eq] at H
      rw [if_pos c3] at H; exact H
  · rw [if_neg c, if_pos c2] at H
    simp only [decide_eq_true_eq] at H
    refine k_hasEnded hs hw h2 ⟨_, rfl, hw, ?_⟩
    rw [ha, tm h2.1]
    refine ⟨fun c3 => ?_, fun c3 => ⟨fun c4 => ?_, fun c4 => ?_⟩⟩
    · rw [i0, Decidable.not_not] at c3
      rw [if_neg (fun q => q.1 c3)] at H; exact H
    · rw [if_neg (fun q => c4 q.2)] at H; exact H
    · rw [i0] at c3
      rw [if_pos ⟨c3, c4⟩] at H; exact H
  · rw [if_pos c] at H
    simp only [decide_eq_true_eq] at H
    refine k_hasEnded hs hw h2 ⟨_, rfl, hw, ?_⟩
    rw [ha]
    refine ⟨?_, H⟩
    split <;> simp
theorem k_farBy {st : Int} {e : Nat} (hs : am_sc scr) (hw : wf h) (r : rok a f B) (x : msP h a f) (hr : Rch a f st) (he : e < 7) (hb : ∀ s, Rch a f s → 0 ≤ h.2.2.2 121 s.toNat ∧ h.2.2.2 121 s.toNat ≤ 268435456) (H : Q (some (.inl (fbV h 121 a f st e))) h) : am_R (am_prog scr) d f_M_farBy 0 [some (.inr (.inr ((109 : Nat) : Int))), some (.inl (st)), some (.inl ((e : Int))), none] [] h Q := by
  have so := (hr.ok r).1
  have e7 : am_w (am_w (7 * st) + (e : Int)) = 7 * st + (e : Int) := by simp (disch := omega) only [am_w_id, am_W_id]
  refine w_M_farBy_0 hs hw ?_
  rw [e7, x.2.2.2.2 st hr e he]
  unfold fbV at H
  refine ⟨by omega, fun y hy => ?_⟩
  subst hy
  rcases thV_r r hr e with q | ⟨q1, q2, _⟩
  · rw [if_pos q] at H
    exact ⟨fun _ => H, fun c => absurd q c⟩
  · rw [if_neg (by omega)] at H
    refine ⟨fun c => by omega, fun _ => ⟨q2, fun c => ⟨q2, ?_⟩, fun c => ?_⟩⟩
    · rw [if_neg c] at H
      have := hb _ q1
      rw [am_w_id (by omega) (by omega)]; exact H
    · rw [if_pos c] at H; exact H
theorem fI.b (x : fI h a f w) : ∀ s, Rch a f s → 0 ≤ h.2.2.2 121 s.toNat ∧ h.2.2.2 121 s.toNat ≤ 268435456 := fun s hr => (x s hr).1
/-- a pass: from heap b on, where nothing is nearer or something has come nearer -/
def psF (b g : am_H) (a : Nat → Int) (f : Nat → (Nat → Int) → Int) (w fl : Int) (Done : Nat → Nat → Prop) : Prop := wf g ∧ g.2.2.2 110 = a ∧ msP g a f ∧ fI g a f w ∧ fr [121] [] b g ∧ ((fl = 0 ∧ (∀ j, g.2.2.2 121 j = b.2.2.2 121 j) ∧ ∀ i e : Nat, Done i e → (i : Int) < g.2.2.2 109 29 → e < 7 → g.2.2.2 121 (g.2.2.2 119 i).toNat ≤ 0 ∨ g.2.2.2 121 (g.2.2.2 119 i).toNat ≤ fbV g 121 a f (g.2.2.2 119 i) e) ∨ (fl = 1 ∧ muI g 121 < muI b 121))
theorem psF.mono {b g : am_H} {fl : Int} {D E : Nat → Nat → Prop} (x : psF b g a f w fl D) (h : ∀ i e, E i e → e < 7 → (i : Int) < g.2.2.2 109 29 → D i e ∨ g.2.2.2 121 (g.2.2.2 119 i).toNat ≤ 0) : psF b g a f w fl E := by
  obtain ⟨x1, x2, x3, x4, x5, x6⟩ := x
  refine ⟨x1, x2, x3, x4, x5, ?_⟩
  rcases x6 with ⟨y1, y2, y3⟩ | y
  · refine Or.inl ⟨y1, y2, fun i e hE hi he => ?_⟩
    rcases h i e hE he hi with q | q
    · exact y3 i e q hi he
    · exact Or.inl q
  · exact Or.inr y
theorem k_far_74 {b : am_H} {k : Nat} (hs : am_sc scr) (r : rok a f B) (K : ∀ (g : am_H) (fl : Int), psF b g a f w fl (fun i _ => k ≤ i) → am_R (am_prog scr) (d + 4) f_M_laysFar 67 [some (.inr (.inr ((109 : Nat) : Int))), some (.inl (w)), some (.inl (fl)), some (.inl ((k : Int) - 1)), none] [] g Q) : ∀ (m e : Nat) (g : am_H) (fl : Int), e + m = 7 → (k : Int) < g.2.2.2 109 29 → psF b g a f w fl (fun i e' => k < i ∨ (i = k ∧ e' < e)) → am_R (am_prog scr) (d + 4) f_M_laysFar 74 [some (.inr (.inr ((109 : Nat) : Int))), some (.inl (w)), some (.inl (fl)), some (.inl ((k : Int))), some (.inl ((e : Int)))] [] g Q := by
  intro m
  induction m with
  | zero =>
    intro e g fl he kc x
    have c29 := x.2.2.1.1
    refine w_M_laysFar_74 hs x.1 ⟨fun _ y hy => ?_, fun c => by omega⟩
    rw [am_w_id (by omega) (by omega)] at hy
    subst hy
    exact K g fl (x.mono (fun i e' q _ _ => Or.inl (by omega)))
  | succ m ih =>
    intro e g fl he kc x
    have x0 := x
    obtain ⟨x1, x2, x3, x4, x5, x6⟩ := x
    have c29 := x3.1
    have hr := x3.2.1 k kc
    have so := (hr.ok r).1
    have fb := (x4 _ hr).1
    refine w_M_laysFar_74 hs x1 ⟨fun c => by omega, fun _ => ⟨by omega, ?_⟩⟩
    rw [Int.toNat_natCast]
    refine ⟨so, fun c y hy => ?_, fun c => ⟨by omega, ?_⟩⟩
    · rw [am_w_id (by omega) (by omega)] at hy
      subst hy
      refine K g fl (x0.mono (fun i e' q _ _ => ?_))
      by_cases q2 : i = k
      · rw [q2]; exact Or.inr c
      · exact Or.inl (Or.inl (by omega))
    · refine k_farBy hs x1 r x3 hr (by omega) x4.b ⟨_, rfl, x1, by omega, so, fun c2 => ⟨by omega, by omega, ?_⟩, fun c2 y hy => ?_⟩
      · refine k_farBy hs x1 r x3 hr (by omega) x4.b ⟨_, rfl, x1, so, fun g15 e15 y hy => ?_⟩
        rw [am_w_id (by omega) (by omega)] at hy
        obtain rfl : y = ((e + 1 : Nat) : Int) := by omega
        have f15 : fr [121] [] g g15 := by rw [e15]; exact fr.rfl.put (Or.inl (by decide))
        have c109 : g15.2.2.2 109 = g.2.2.2 109 := f15.c 109 (by decide) (by simp)
        have c119 : g15.2.2.2 119 = g.2.2.2 119 := f15.c 119 (by decide) (by simp)
        have c120 : g15.2.2.2 120 = g.2.2.2 120 := f15.c 120 (by decide) (by simp)
        have c121 : ∀ j, g15.2.2.2 121 j = if j = (g.2.2.2 119 k).toNat then fbV g 121 a f (g.2.2.2 119 k) e else g.2.2.2 121 j := by
          intro j; rw [e15]; simp only [put_at, true_and]
        -- the new number
        have nv : 0 ≤ fbV g 121 a f (g.2.2.2 119 k) e ∧ fbV g 121 a f (g.2.2.2 119 k) e < 268435456 ∧ dN a f w (fbV g 121 a f (g.2.2.2 119 k) e).toNat (g.2.2.2 119 k) := by
          unfold fbV at c2 ⊢
          rcases thV_r r hr e with q | ⟨q1, q2, q3, q4, q5⟩
          · rw [if_pos q] at c2; omega
          · rw [if_neg (by omega)] at c2 ⊢
            by_cases q6 : g.2.2.2 121 (thV a f (g.2.2.2 119 k) e).toNat = 268435456
            · rw [if_pos q6] at c2; omega
            · rw [if_neg q6] at c2 ⊢
              have b1 := x4 _ q1
              refine ⟨by omega, by omega, ?_⟩
              rw [show (g.2.2.2 121 (thV a f (g.2.2.2 119 k) e).toNat + 1).toNat = (g.2.2.2 121 (thV a f (g.2.2.2 119 k) e).toNat).toNat + 1 by omega]
              refine Or.inr ⟨q3, (e : Int), ⟨by omega, q4⟩, ?_⟩
              rw [← q5]
              exact b1.2.2 (by omega)
        refine ih (e + 1) g15 1 (by omega) (by rw [c109]; exact kc) ⟨by rw [e15]; exact x1.pa (by decide +kernel), (f15.c 110 (by decide) (by simp)).trans x2, x3.fr (by rw [c109]) c119 c120, fun s hr2 => ?_, x5.trans f15, Or.inr ⟨rfl, ?_⟩⟩
        · rw [c121]
          by_cases q : s.toNat = (g.2.2.2 119 k).toNat
          · rw [if_pos q]
            have es : s = g.2.2.2 119 k := by have := (hr2.ok r).1; omega
            subst es
            refine ⟨by omega, fun c3 => ?_, fun _ => nv.2.2⟩
            have := (x4 _ hr).2.1 c3
            omega
          · rw [if_neg q]; exact x4 s hr2
        · have lt : muI g15 121 < muI g 121 := by
            unfold muI
            rw [c109, c119]
            refine sumN_lt (k := k) (by omega) (fun i hi hne => ?_) ?_
            · show (g15.2.2.2 121 (g.2.2.2 119 i).toNat).toNat = (g.2.2.2 121 (g.2.2.2 119 i).toNat).toNat
              rw [c121, if_neg]
              intro q
              have ri := ((x3.2.1 i (by omega)).ok r).1
              have es : g.2.2.2 119 i = g.2.2.2 119 k := by omega
              rcases Nat.lt_or_ge i k with q2 | q2
              · exact x3.2.2.2.1 i k q2 kc es
              · exact x3.2.2.2.1 k i (by omega) (by omega) es.symm
            · show (g15.2.2.2 121 (g.2.2.2 119 k).toNat).toNat < (g.2.2.2 121 (g.2.2.2 119 k).toNat).toNat
              rw [c121, if_pos rfl]
              omega
          have le : muI g 121 ≤ muI b 121 := by
            rcases x6 with ⟨_, y2, _⟩ | ⟨_, y2⟩
            · have c1 : g.2.2.2 109 = b.2.2.2 109 := x5.c 109 (by decide) (by simp)
              have c2 : g.2.2.2 119 = b.2.2.2 119 := x5.c 119 (by decide) (by simp)
              have c3 : g.2.2.2 121 = b.2.2.2 121 := funext y2
              unfold muI
              rw [c1, c2, c3]
              omega
            · omega
          omega
      · rw [am_w_id (by omega) (by omega)] at hy
        obtain rfl : y = ((e + 1 : Nat) : Int) := by omega
        refine ih (e + 1) g fl (by omega) kc ?_
        refine ⟨x1, x2, x3, x4, x5, ?_⟩
        rcases x6 with ⟨y1, y2, y3⟩ | y
        · refine Or.inl ⟨y1, y2, fun i e' hE hi he' => ?_⟩
          by_cases q : i = k ∧ e' = e
          · rw [q.1, q.2]; exact Or.inr (by omega)
          · exact y3 i e' (by omega) hi he'
        · exact Or.inr y
theorem k_far_67 {b : am_H} (hs : am_sc scr) (r : rok a f B) (K : ∀ (g : am_H) (fl : Int), psF b g a f w fl (fun _ _ => True) → am_R (am_prog scr) (d + 4) f_M_laysFar 54 [some (.inr (.inr ((109 : Nat) : Int))), some (.inl (w)), some (.inl (fl)), none, none] [] g Q) : ∀ (k : Nat) (g : am_H) (fl : Int), (k : Int) ≤ g.2.2.2 109 29 → psF b g a f w fl (fun i _ => k ≤ i) → am_R (am_prog scr) (d + 4) f_M_laysFar 67 [some (.inr (.inr ((109 : Nat) : Int))), some (.inl (w)), some (.inl (fl)), some (.inl ((k : Int) - 1)), none] [] g Q := by
  intro k
  induction k with
  | zero =>
    intro g fl kc x
    refine w_M_laysFar_67 hs x.1 ⟨fun _ => K g fl (x.mono (fun i e _ _ _ => Or.inl (by omega))), fun c => by omega⟩
  | succ k ih =>
    intro g fl kc x
    refine w_M_laysFar_67 hs x.1 ⟨fun c => by omega, fun _ => ?_⟩
    rw [show ((k + 1 : Nat) : Int) - 1 = (k : Int) by omega]
    refine k_far_74 hs r (fun g2 fl2 x2 => ?_) 7 0 g fl rfl (by omega) (x.mono (fun i e q _ _ => Or.inl (by omega)))
    refine ih g2 fl2 ?_ x2
    have c1 : g2.2.2.2 109 = b.2.2.2 109 := x2.2.2.2.2.1.c 109 (by decide) (by simp)
    have c2 : g.2.2.2 109 = b.2.2.2 109 := x.2.2.2.2.1.c 109 (by decide) (by simp)
    rw [c1, ← c2]
    omega
theorem far_done (r : rok a f B) {g : am_H} (x : msP g a f) (y : fI g a f w) (z : ∀ i e : Nat, (i : Int) < g.2.2.2 109 29 → e < 7 → g.2.2.2 121 (g.2.2.2 119 i).toNat ≤ 0 ∨ g.2.2.2 121 (g.2.2.2 119 i).toNat ≤ fbV g 121 a f (g.2.2.2 119 i) e) : ∀ st, Rch a f st → isD a f w st (g.2.2.2 121 st.toNat) := by
  have low : ∀ (k : Nat) (st : Int), k ≤ 400 → Rch a f st → dN a f w k st → g.2.2.2 121 st.toNat ≤ k := by
    intro k
    induction k with
    | zero => intro st _ hr hd; have := (y st hr).2.1 hd; omega
    | succ k ih =>
      intro st hk hr hd
      rcases hd with hd | ⟨h1, e, h2, h3⟩
      · have := (y st hr).2.1 hd; omega
      · obtain ⟨i, i1, i2⟩ := x.2.2.1 st hr
        have h4 := r.1.1
        have zz := z i e.toNat i1 (by omega)
        rw [i2] at zz
        have ee : ((e.toNat : Nat) : Int) = e := by omega
        have t := hr.step (e := e) h1 h2
        have := ih _ (by omega) t h3
        have tb := (t.ok r).1
        rcases zz with zz | zz
        · omega
        · unfold fbV at zz
          have tv : thV a f st e.toNat = Tr a f st e := by unfold thV; rw [ee, if_pos ⟨h1, h2.2⟩]
          rw [tv, if_neg (by omega), if_neg (by omega)] at zz
          omega
  have low2 : ∀ (k : Nat) (st : Int), Rch a f st → dN a f w k st → g.2.2.2 121 st.toNat ≤ k ∧ g.2.2.2 121 st.toNat ≤ 144 := by
    intro k st hr hd
    obtain ⟨m, m1, m2, m3, m4⟩ := dN_small r hr hd
    have := low m st (by omega) hr m3
    omega
  intro st hr
  have yb := y st hr
  by_cases q : g.2.2.2 121 st.toNat = 268435456
  · exact Or.inl ⟨q, fun k hk => by have := low2 k st hr hk; omega⟩
  · exact Or.inr ⟨by omega, yb.2.2 (by omega), fun k hk c => by have := low2 k st hr c; omega⟩
theorem k_far_54 (hs : am_sc scr) (r : rok a f B) {b0 : am_H} (H : ∀ g, wf g → fr [121] [] b0 g → msP g a f → (∀ st, Rch a f st → isD a f w st (g.2.2.2 121 st.toNat)) → Q (some (.inl (g.2.2.2 121 (stA a).toNat))) g) : ∀ (N : Nat) (b : am_H), muI b 121 ≤ N → wf b → b.2.2.2 110 = a → msP b a f → fI b a f w → fr [121] [] b0 b → am_R (am_prog scr) (d + 4) f_M_laysFar 54 [some (.inr (.inr ((109 : Nat) : Int))), some (.inl (w)), some (.inl (1)), none, none] [] b Q := by
  intro N
  induction N using Nat.strongRecOn with
  | _ N ih =>
    intro b hN wb ab xb yb fb
    have c29 := xb.1
    refine w_M_laysFar_54 hs wb ⟨fun c => by omega, fun _ y hy => ?_⟩
    rw [am_w_id (by omega) (by omega)] at hy
    have e1 : (((b.2.2.2 109 29).toNat : Nat) : Int) = b.2.2.2 109 29 := by omega
    rw [hy, ← e1]
    refine k_far_67 (b := b) hs r (fun g fl x => ?_) (b.2.2.2 109 29).toNat b 0 (by omega) ⟨wb, ab, xb, yb, fr.rfl, Or.inl ⟨rfl, fun _ => rfl, fun i e h1 h2 _ => by omega⟩⟩
    obtain ⟨x1, x2, x3, x4, x5, x6⟩ := x
    rcases x6 with ⟨y1, y2, y3⟩ | ⟨y1, y2⟩
    · subst y1
      refine w_M_laysFar_54 hs x1 ⟨fun _ => ?_, fun c => by omega⟩
      have done := far_done r x3 x4 (fun i e h1 h2 => y3 i e trivial h1 h2)
      refine k_standNowA hs x1 x2 r ⟨_, rfl, x1, r.st.1, ?_⟩
      exact H g x1 (fb.trans x5) x3 done
    · subst y1
      exact ih (muI g 121) (by omega) g (by omega) x1 x2 x3 x4 (fb.trans x5)
theorem k_laysFar (hs : am_sc scr) (hw : wf h) (ha : h.2.2.2 110 = a) (r : rok a f B) (H : ∀ g, wf g → fr [114, 115, 119, 120, 121, 123] [(109, 29)] h g → msP g a f → (∀ st, Rch a f st → isD a f w st (g.2.2.2 121 st.toNat)) → Q (some (.inl (g.2.2.2 121 (stA a).toNat))) g) : am_R (am_prog scr) (d + 6) f_M_laysFar 0 [some (.inr (.inr ((109 : Nat) : Int))), some (.inl (w)), none, none, none] [] h Q := by
  refine w_M_laysFar_0 hs hw ?_
  refine k_laysStands hs hw ha r (fun b0 w0 f0 x0 => ⟨rfl, w0, ?_⟩)
  have a0 : b0.2.2.2 110 = a := (f0.c 110 (by decide) (by decide)).trans ha
  have c29 := x0.1
  have lp : ∀ (m k : Nat) (g : am_H), (k : Int) + m = b0.2.2.2 109 29 → wf g → fr [121] [] b0 g → (∀ i : Nat, i < k → g.2.2.2 121 (b0.2.2.2 119 i).toNat = if soB a w (b0.2.2.2 119 i) = true then 0 else 268435456) → am_R (am_prog scr) (d + 6) f_M_laysFar 6 [some (.inr (.inr ((109 : Nat) : Int))), some (.inl (w)), some (.inl ((k : Int))), none, none] [] g Q := by
    intro m
    induction m with
    | zero =>
      intro k g hk wg fg p
      have c109 : g.2.2.2 109 = b0.2.2.2 109 := fg.c 109 (by decide) (by simp)
      have xg : msP g a f := x0.fr (by rw [c109]) (fg.c 119 (by decide) (by simp)) (fg.c 120 (by decide) (by simp))
      refine w_M_laysFar_6 hs wg ?_
      rw [c109]
      refine ⟨fun _ => ?_, fun c => by omega⟩
      refine (k_far_54 (d := d + 2) hs r (b0 := b0) (fun g2 w2 f2 x2 y2 => H g2 w2 ((f0.mono (by decide) (by decide)).trans (f2.mono (by decide) (by simp))) x2 y2) (muI g 121) g (by omega) wg ((fg.c 110 (by decide) (by simp)).trans a0) xg (fun st hr => ?_) fg)
      obtain ⟨i, i1, i2⟩ := x0.2.2.1 st hr
      have := p i (by omega)
      rw [i2] at this
      rw [this]
      by_cases q : soB a w st = true
      · rw [if_pos q]; exact ⟨by omega, fun _ => rfl, fun _ => q⟩
      · rw [if_neg q]; exact ⟨by omega, fun c => absurd c q, fun c => by omega⟩
    | succ m ih =>
      intro k g hk wg fg p
      have c109 : g.2.2.2 109 = b0.2.2.2 109 := fg.c 109 (by decide) (by simp)
      have c119 : g.2.2.2 119 = b0.2.2.2 119 := fg.c 119 (by decide) (by simp)
      have hr := x0.2.1 k (by omega)
      have so := (hr.ok r).1
      refine w_M_laysFar_6 hs wg ?_
      rw [c109, c119, Int.toNat_natCast]
      have nx : ∀ (v : Int) (g2 : am_H), v = (if soB a w (b0.2.2.2 119 k) = true then 0 else 268435456) → g2 = am_put g 121 (b0.2.2.2 119 k).toNat v → ∀ y, y = am_w ((k : Int) + 1) → am_R (am_prog scr) (d + 6) f_M_laysFar 6 [some (.inr (.inr ((109 : Nat) : Int))), some (.inl (w)), some (.inl (y)), none, none] [] g2 Q := by
        intro v g2 hv e2 y hy
        rw [am_w_id (by omega) (by omega)] at hy
        obtain rfl : y = ((k + 1 : Nat) : Int) := by omega
        refine ih (k + 1) g2 (by omega) (by rw [e2]; exact wg.pa (by decide +kernel)) (fg.trans (by rw [e2]; exact fr.rfl.put (Or.inl (by decide)))) (fun i hi => ?_)
        rw [e2]
        simp only [put_at, true_and]
        by_cases q : i = k
        · rw [q, if_pos rfl, hv]
        · rw [if_neg]
          · exact p i (by omega)
          · intro c
            have ri := ((x0.2.1 i (by omega)).ok r).1
            exact x0.2.2.2.1 i k (by omega) (by omega) (by omega)
      refine ⟨fun c => by omega, fun _ => ⟨by omega, by omega, ?_⟩⟩
      refine k_isSo hs wg ((fg.c 110 (by decide) (by simp)).trans a0) so ⟨_, rfl, wg, fun c => ⟨so, fun g2 e2 y hy => ?_⟩, fun c => ⟨so, fun g2 e2 y hy => ?_⟩⟩
      · rw [i0] at c
        exact nx _ g2 (by rw [if_neg c]) e2 y hy
      · rw [i0, Decidable.not_not] at c
        exact nx _ g2 (by rw [if_pos c]) e2 y hy
  have := lp (b0.2.2.2 109 29).toNat 0 b0 (by omega) w0 fr.rfl (fun i hi => by omega)
  exact this
theorem k_Msoonest (hs : am_sc scr) (hw : wf h) (ha : h.2.2.2 110 = a) (r : rok a f B) (H : ∀ g z, wf g → fr [114, 115, 119, 120, 121, 123] [(109, 0), (109, 29)] h g → ((0 ≤ w ∧ w ≤ 1 → ∃ v, isD a f w (stA a) v ∧ z = if v = 268435456 then -1 else v) ∧ (¬ (0 ≤ w ∧ w ≤ 1) → z = -2)) → Q (some (.inl (z))) g) : am_R (am_prog scr) (d + 7) f_M_soonest 0 [some (.inr (.inr ((109 : Nat) : Int))), some (.inl (w))] [] h Q := by
  refine w_M_soonest_0 hs hw (fun g1 q1 => ?_)
  have w1 : wf g1 := by rw [q1]; exact (put0 hw).1
  have f0 : fr [] [(109, 0)] h g1 := by rw [q1]; exact (put0 hw).2
  have a1 : g1.2.2.2 110 = a := (f0.c 110 (by simp) (by decide)).trans ha
  have f1 : fr [114, 115, 119, 120, 121, 123] [(109, 0), (109, 29)] h g1 := f0.mono (by simp) (by decide)
  refine k_within hs w1 ⟨_, rfl, w1, fun c => ?_, fun c => ?_⟩
  · rw [i0] at c
    exact H g1 _ w1 f1 ⟨fun q => absurd q c, fun _ => rfl⟩
  · rw [i0, Decidable.not_not] at c
    refine k_laysFar hs w1 a1 r (fun g wg fg x y => ⟨_, rfl, wg, ?_⟩)
    have HH := fun z e => H g z wg (f1.trans (fg.mono (by decide) (by decide))) ⟨fun _ => ⟨_, y _ Rch.zero, e⟩, fun q => absurd c q⟩
    refine w_M_toldFar_0 hs wg ⟨fun c2 => ⟨_, rfl, wg, HH _ (by rw [if_neg c2])⟩, fun c2 => ⟨_, rfl, wg, HH _ (by rw [if_pos c2])⟩⟩
theorem fb_iff (r : rok a f B) {st : Int} (hr : Rch a f st) (y : ∀ st, Rch a f st → isD a f w st (h.2.2.2 121 st.toNat)) {e : Nat} {v : Int} (hv : 0 < v ∧ v < 268435456) : fbV h 121 a f st e = v ↔ (¬ ovT a st ∧ (e : Int) ≤ a 4) ∧ isD a f w (Tr a f st e) (v - 1) := by
  unfold fbV
  rcases thV_r r hr e with q | ⟨q1, q2, q3, q4, q5⟩
  · rw [if_pos q]
    refine ⟨fun c => by omega, fun c => ?_⟩
    have t : thV a f st e = Tr a f st e := by unfold thV; rw [if_pos c.1]
    have := (hr.step (e := (e : Int)) c.1.1 ⟨by omega, c.1.2⟩).ok r
    rw [← t, q] at this
    have := this.1
    omega
  · rw [if_neg (by omega)]
    have yy := y _ q1
    rw [q5] at yy ⊢
    by_cases q6 : h.2.2.2 121 (Tr a f st e).toNat = 268435456
    · rw [if_pos q6]
      refine ⟨fun c => by omega, fun c => ?_⟩
      have := yy.uniq c.2
      omega
    · rw [if_neg q6]
      refine ⟨fun c => ⟨⟨q3, q4⟩, ?_⟩, fun c => ?_⟩
      · rw [show v - 1 = h.2.2.2 121 (Tr a f st e).toNat by omega]; exact yy
      · have := yy.uniq c.2
        omega
theorem k_way_63 {i v st : Int} {k : Nat} (hs : am_sc scr) (hw : wf h) (r : rok a f B) (x : msP h a f) (y : ∀ st, Rch a f st → isD a f w st (h.2.2.2 121 st.toNat)) (hr : Rch a f st) (hv : h.2.2.2 121 st.toNat = v) (hv2 : 0 < v ∧ v < 268435456) (hk : k < 1000) (K : ∀ e : Nat, e < 7 → leastE a f (fun s => isD a f w s (v - 1)) st (e : Int) → ((k : Int) = i → Q (some (.inl ((e : Int)))) h) ∧ (¬ (k : Int) = i → am_R (am_prog scr) (d + 1) f_M_way 39 [some (.inr (.inr ((109 : Nat) : Int))), some (.inl (w)), some (.inl (i)), some (.inl (Tr a f st e)), some (.inl (((k + 1 : Nat) : Int))), none] [] h Q)) : ∀ (m e : Nat), e + m = 7 → (∀ e' : Nat, e' < e → ¬ isD a f w (Tr a f st e') (v - 1)) → am_R (am_prog scr) (d + 1) f_M_way 63 [some (.inr (.inr ((109 : Nat) : Int))), some (.inl (w)), some (.inl (i)), some (.inl (st)), some (.inl ((k : Int))), some (.inl ((e : Int)))] [] h Q := by
  have hb : ∀ s, Rch a f s → 0 ≤ h.2.2.2 121 s.toNat ∧ h.2.2.2 121 s.toNat ≤ 268435456 := fun s hs2 => by
    rcases y s hs2 with ⟨q, _⟩ | ⟨q, _⟩ <;> omega
  have so := (hr.ok r).1
  have dw := (y st hr)
  rw [hv] at dw
  have dn := dw.down hv2
  intro m
  induction m with
  | zero =>
    intro e he p
    exfalso
    obtain ⟨e', e1, e2⟩ := dn.2
    have h4 := r.1.1
    have := p e'.toNat (by omega)
    rw [show ((e'.toNat : Nat) : Int) = e' by omega] at this
    exact this e2
  | succ m ih =>
    intro e he p
    refine w_M_way_63 hs hw ?_
    refine k_farBy hs hw r x hr (by omega) hb ⟨_, rfl, hw, so, ?_⟩
    rw [hv]
    have iff := fb_iff r hr y (e := e) hv2
    have e7 : am_w (am_w (7 * st) + (e : Int)) = 7 * st + (e : Int) := by simp (disch := omega) only [am_w_id, am_W_id]
    refine ⟨fun c => ?_, fun c q hq => ?_⟩
    · have c2 := iff.mp c
      have KK := K e (by omega) ⟨⟨by omega, c2.1.2⟩, c2.2, fun e' h1 h2 => by
        have := p e'.toNat (by omega)
        rw [show ((e'.toNat : Nat) : Int) = e' by omega] at this
        exact this⟩
      refine ⟨fun c3 => ?_, fun c3 => KK.1 c3⟩
      rw [e7, x.2.2.2.2 st hr e (by omega)]
      refine ⟨by omega, fun y5 h5 y6 h6 => ?_⟩
      have t : thV a f st e = Tr a f st e := by unfold thV; rw [if_pos c2.1]
      rw [t] at h5
      rw [am_w_id (by omega) (by omega)] at h6
      obtain rfl : y6 = ((k + 1 : Nat) : Int) := by omega
      subst h5
      exact KK.2 c3
    · rw [am_w_id (by omega) (by omega)] at hq
      obtain rfl : q = ((e + 1 : Nat) : Int) := by omega
      refine ih (e + 1) (by omega) (fun e' h1 c2 => ?_)
      by_cases q : e' = e
      · subst q
        by_cases q2 : (e' : Int) ≤ a 4
        · exact c (iff.mpr ⟨⟨dn.1, q2⟩, c2⟩)
        · -- a deed beyond the sleepers is a beat in which nobody is woken
          have h4 := r.1.1
          have es : Tr a f st (e' : Int) = Tr a f st 0 := by
            have sb := snorS_b r.1 (hu := a 28) (wk := -1) so.1
            have t1 := Tr_two (a := a) (f := f) (s := st) (e := (e' : Int)) (by omega)
            have t2 := Tr_two (a := a) (f := f) (s := st) (e := 0) (by omega)
            rcases t1 with t1 | t1
            · omega
            · rcases t2 with t2 | t2
              · rw [t1.2, t2.2, ← t2.1]; rfl
              · rw [t1.2, t2.2]
          rw [es] at c2
          exact p 0 (by omega) c2
      · exact p e' (by omega) c2
theorem k_way_39 {i : Int} (hs : am_sc scr) (hw : wf h) (r : rok a f B) (x : msP h a f) (y : ∀ st, Rch a f st → isD a f w st (h.2.2.2 121 st.toNat)) : ∀ (n k : Nat) (st : Int), Rch a f st → (h.2.2.2 121 st.toNat = 268435456 ∨ h.2.2.2 121 st.toNat ≤ n) → (k : Int) ≤ i → k + n ≤ 900 → (∀ z, wayP a f w (i.toNat - k) st z → Q (some (.inl (z))) h) → am_R (am_prog scr) (d + 1) f_M_way 39 [some (.inr (.inr ((109 : Nat) : Int))), some (.inl (w)), some (.inl (i)), some (.inl (st)), some (.inl ((k : Int))), none] [] h Q := by
  intro n
  induction n with
  | zero =>
    intro k st hr hn hk hkn H
    have so := (hr.ok r).1
    have yb : 0 ≤ h.2.2.2 121 st.toNat := by rcases y st hr with ⟨q, _⟩ | ⟨q, _⟩ <;> omega
    have fin : Q (some (.inl (-1))) h := by
      refine H (-1) ?_
      cases hik : i.toNat - k with
      | zero => exact ⟨_, y st hr, Or.inl ⟨by omega, rfl⟩⟩
      | succ j => exact ⟨_, y st hr, Or.inl ⟨by omega, rfl⟩⟩
    exact w_M_way_39 hs hw ⟨so, fun c => fin, fun c => ⟨so, fun c2 => fin, fun c2 => by omega⟩⟩
  | succ n ih =>
    intro k st hr hn hk hkn H
    have so := (hr.ok r).1
    have yb : 0 ≤ h.2.2.2 121 st.toNat ∧ h.2.2.2 121 st.toNat ≤ 268435456 := by rcases y st hr with ⟨q, _⟩ | ⟨q, _⟩ <;> omega
    have fin : (h.2.2.2 121 st.toNat = 0 ∨ h.2.2.2 121 st.toNat = 268435456) → Q (some (.inl (-1))) h := by
      intro q
      refine H (-1) ?_
      cases hik : i.toNat - k with
      | zero => exact ⟨_, y st hr, Or.inl ⟨q, rfl⟩⟩
      | succ j => exact ⟨_, y st hr, Or.inl ⟨q, rfl⟩⟩
    refine w_M_way_39 hs hw ⟨so, fun c => fin (by omega), fun c => ⟨so, fun c2 => fin (by omega), fun c2 => ?_⟩⟩
    refine k_way_63 hs hw r x y hr rfl (by omega) (by omega) (fun e he le => ⟨fun c3 => ?_, fun c3 => ?_⟩) 7 0 rfl (fun e' h1 => by omega)
    · refine H _ ?_
      rw [show i.toNat - k = 0 by omega]
      exact ⟨_, y st hr, Or.inr ⟨by omega, le⟩⟩
    · have ht := hr.step (e := (e : Int)) ((y st hr).down (by omega)).1 le.1
      have := (y _ ht).uniq le.2.1
      refine ih (k + 1) _ ht (Or.inr (by omega)) (by omega) (by omega) (fun z hz => H z ?_)
      rw [show i.toNat - k = (i.toNat - (k + 1)) + 1 by omega]
      exact ⟨_, y st hr, Or.inr ⟨by omega, _, le, hz⟩⟩
theorem k_Mway {i : Int} (hs : am_sc scr) (hw : wf h) (ha : h.2.2.2 110 = a) (r : rok a f B) (H : ∀ g z, wf g → fr [114, 115, 119, 120, 121, 123] [(109, 0), (109, 29)] h g → ((0 ≤ w ∧ w ≤ 1 → 0 ≤ i → wayP a f w i.toNat (stA a) z) ∧ (0 ≤ w ∧ w ≤ 1 → i < 0 → z = -3) ∧ (¬ (0 ≤ w ∧ w ≤ 1) → z = -2)) → Q (some (.inl (z))) g) : am_R (am_prog scr) (d + 7) f_M_way 0 [some (.inr (.inr ((109 : Nat) : Int))), some (.inl (w)), some (.inl (i)), none, none, none] [] h Q := by
  refine w_M_way_0 hs hw (fun g1 q1 => ?_)
  have w1 : wf g1 := by rw [q1]; exact (put0 hw).1
  have f0 : fr [] [(109, 0)] h g1 := by rw [q1]; exact (put0 hw).2
  have a1 : g1.2.2.2 110 = a := (f0.c 110 (by simp) (by decide)).trans ha
  have f1 : fr [114, 115, 119, 120, 121, 123] [(109, 0), (109, 29)] h g1 := f0.mono (by simp) (by decide)
  refine k_within hs w1 ⟨_, rfl, w1, fun c => ⟨fun c2 => ?_, fun c2 => ?_⟩, fun c => ?_⟩
  · rw [i0, Decidable.not_not] at c
    refine k_laysFar hs w1 a1 r (fun g wg fg x y => ⟨_, rfl, wg, ?_⟩)
    have ag : g.2.2.2 110 = a := (fg.c 110 (by decide) (by decide)).trans a1
    refine k_standNowA hs wg ag r ⟨_, rfl, wg, ?_⟩
    have sm : g.2.2.2 121 (stA a).toNat = 268435456 ∨ g.2.2.2 121 (stA a).toNat ≤ 144 := by
      rcases y _ Rch.zero with ⟨q, _⟩ | ⟨q, q2, q3⟩
      · exact Or.inl q
      · obtain ⟨m, m1, m2, m3, m4⟩ := dN_small r Rch.zero q2
        refine Or.inr ?_
        apply Decidable.byContradiction
        intro c
        exact q3 m (by omega) m3
    have := k_way_39 (d := d + 6) (Q := Q) (i := i) hs wg r x y 144 0 (stA a) Rch.zero sm (by omega) (by omega) (fun z hz => H g z wg (f1.trans (fg.mono (by decide) (by decide))) ⟨fun _ _ => hz, fun _ q => by omega, fun q => absurd c q⟩)
    exact this
  · rw [i0, Decidable.not_not] at c
    exact H g1 _ w1 f1 ⟨fun _ q => by omega, fun _ _ => rfl, fun q => absurd c q⟩
  · rw [i0] at c
    exact H g1 _ w1 f1 ⟨fun q => absurd q c, fun q => absurd q c, fun _ => rfl⟩
end FA
