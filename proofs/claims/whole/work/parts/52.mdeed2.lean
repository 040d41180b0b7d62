/-! the reference: calls that do deeds; what they answer, what the row is then -/
def q_beat (a : Nat → Int) (f : Nat → (Nat → Int) → Int) (v : Int) : Int × (Nat → Int) := if whyBA a v = 0 then ((if gbA a f (v - 1) 15 = 1 then -1 else gbA a f (v - 1) 12), pushA (wasA a) (gbA a f (v - 1))) else (-10 - whyBA a v, a)
def q_beats (a : Nat → Int) (f : Nat → (Nat → Int) → Int) (n : Int) : Int × (Nat → Int) := if 1 ≤ n ∧ n ≤ 99 then (if ovA a then (0, a) else (btsA f n.toNat a 29 - a 29, pushA (wasA a) (btsA f n.toNat a))) else (-3, a)
def q_change (a : Nat → Int) (s o : Int) : Int × (Nat → Int) := if (0 ≤ s ∧ s < a 4) ∧ (0 ≤ o ∧ o < a 4) ∧ s ≠ o then (a (16 + o).toNat, pushA (wasA a) (chA a s o)) else (-11, a)
def q_dream (a : Nat → Int) (s n : Int) : Int × (Nat → Int) := if (0 ≤ s ∧ s < a 4) ∧ 0 ≤ n ∧ n ≤ 9 then (a (22 + s).toNat, pushA (wasA a) (drA a s n)) else (-11, a)
def q_hush (a : Nat → Int) (n : Int) : Int × (Nat → Int) := if 0 ≤ n ∧ n ≤ 9 then (a 28, pushA (wasA a) (huA a n)) else (-11, a)
def q_undo (a : Nat → Int) (n : Int) : Int × (Nat → Int) := if 1 ≤ n ∧ n ≤ a 30 then (a 30 - n, undA a n) else (-3, a)
def q_judge (a : Nat → Int) (f : Nat → (Nat → Int) → Int) (num : Nat → Int) (n : Nat) (w : Int) : Int := if w = 0 then (if (telA f num n 0 a).2.2 = 0 then -1 else ((telA f num n 0 a).2.1 : Int)) else if w = 1 then (telA f num n 0 a).2.2 else if w = 2 then (if a 4 = 0 then -1 else (telA f num n 0 a).1 12) else 10 * (telA f num n 0 a).1 14 + (telA f num n 0 a).1 13
def q_perform (a : Nat → Int) (f : Nat → (Nat → Int) → Int) (num : Nat → Int) (n : Nat) : Int × (Nat → Int) := (((telA f num n 0 a).2.1 : Int), if 0 < (telA f num n 0 a).2.1 then pushA (wasA a) (telA f num n 0 a).1 else a)
def q_night (a : Nat → Int) (f : Nat → (Nat → Int) → Int) (x n : Int) : Int × (Nat → Int) := if 1 ≤ n ∧ n ≤ 40 then (((nigA f n.toNat x 0 a).2 : Int), if 0 < (nigA f n.toNat x 0 a).2 then pushA (wasA a) (nigA f n.toNat x 0 a).1 else a) else (-3, a)
def pifA (n : Nat) (R b : Nat → Int) : Nat → Int := if n = 0 then b else pushA (wasA R) b
theorem i0 (p : Prop) [Decidable p] : (if p then (1 : Int) else 0) = 0 ↔ ¬ p := by split <;> simp [*]
theorem telA_0 {f : Nat → (Nat → Int) → Int} {num : Nat → Int} : ∀ (m k : Nat) (a : Nat → Int), (telA f num m k a).2.1 = k → (telA f num m k a).1 = a := by
  intro m
  cases m with
  | zero => intro k a _; rfl
  | succ m =>
    intro k a
    simp only [telA]
    split
    · intro e
      have : ∀ (m k : Nat) (a : Nat → Int), k ≤ (telA f num m k a).2.1 := by
        intro m
        induction m with
        | zero => intro k a; simp [telA]
        | succ m ih =>
          intro k a
          simp only [telA]
          split
          · have := ih (k + 1) (doA a f (num k)); omega
          · simp
      have := this m (k + 1) (doA a f (num k))
      omega
    · intro _; rfl
theorem nigA_0 {f : Nat → (Nat → Int) → Int} : ∀ (m : Nat) (x : Int) (n : Nat) (a : Nat → Int), (nigA f m x n a).2 = n → (nigA f m x n a).1 = a := by
  have ge : ∀ (m : Nat) (x : Int) (n : Nat) (a : Nat → Int), n ≤ (nigA f m x n a).2 := by
    intro m
    induction m with
    | zero => intro x n a; simp [nigA]
    | succ m ih =>
      intro x n a
      simp only [nigA]
      split
      · have := ih (deedD x).2 (n + 1) (doA a f (deedD x).1); omega
      · exact ih _ _ _
  intro m
  induction m with
  | zero => intro x n a _; rfl
  | succ m ih =>
    intro x n a
    simp only [nigA]
    split
    · intro e
      have := ge m (deedD x).2 (n + 1) (doA a f (deedD x).1)
      omega
    · exact ih _ _ _
theorem lcg_eq (x : Int) : am_w (am_w (1103515245 * x) + 12345) = lcg x := by
  unfold lcg am_w
  exact Int.bmod_add_bmod ..
section ME
variable {scr : Nat × (Nat → Int)} {d : Nat} {h : am_H} {Q : Option am_V → am_H → Prop} {a : Nat → Int} {f : Nat → (Nat → Int) → Int} {B : Int}
theorem put0 (hw : wf h) : wf (am_put h 109 0 0) ∧ fr [] [(109, 0)] h (am_put h 109 0 0) := ⟨hw.put np_109_0, fr.rfl.put (Or.inr (by decide))⟩
/-- what was kept set down -/
theorem k_notesA {g : am_H} (hs : am_sc scr) (hw : wf g) (h116 : ∀ j, j < 18 → g.2.2.2 116 j = a (12 + j)) {b : Nat → Int} (hb : g.2.2.2 110 = b) (al : alike a b) (h30 : 0 ≤ a 30 ∧ a 30 ≤ 10) (H : ∀ k, wf k → fr [110] [] g k → k.2.2.2 110 = pushA (wasA a) b → Q none k) : am_R (am_prog scr) d f_M_notes 0 [some (.inr (.inr ((109 : Nat) : Int))), none] [] g Q := by
  refine k_notes (w := wasA a) hs hw hb (fun j hj => h116 j hj) (by rw [al 30 (by omega)]; exact h30) (fun k wk fk ek => H k wk fk (funext ek))
theorem k_Mbeat {v : Int} (hs : am_sc scr) (hw : wf h) (ha : h.2.2.2 110 = a) (r : hok a f B) (hB : B < 900000) (hv : am_w v = v) (H : ∀ g, wf g → fr [110, 114, 115, 116] [(109, 0)] h g → g.2.2.2 110 = (q_beat a f v).2 → Q (some (.inl ((q_beat a f v).1))) g) : am_R (am_prog scr) (d + 6) f_M_beat 0 [some (.inr (.inr ((109 : Nat) : Int))), some (.inl (v)), none] [] h Q := by
  have hr := am_w_rg hv
  have h4 := r.1.1.1
  refine w_M_beat_0 hs hw (fun g1 q1 => ?_)
  have w1 : wf g1 := by rw [q1]; exact (put0 hw).1
  have f0 : fr [] [(109, 0)] h g1 := by rw [q1]; exact (put0 hw).2
  have a1 : g1.2.2.2 110 = a := (f0.c 110 (by simp) (by decide)).trans ha
  have f1 : fr [110, 114, 115, 116] [(109, 0)] h g1 := f0.mono (by simp) (by decide)
  unfold q_beat at H
  refine k_standNowA hs w1 a1 r.1 ⟨_, rfl, w1, ?_⟩
  refine k_whyBeatA hs w1 a1 r.1 (by omega) ⟨_, rfl, w1, fun c => ?_, fun c => ?_⟩
  · rw [if_pos c] at H
    have c2 := whyBA_0 c
    refine k_stores hs w1 (fun g2 w2 f2 e2 => ⟨rfl, w2, ?_⟩)
    have a2 : g2.2.2.2 110 = a := (f2.c 110 (by decide) (by simp)).trans a1
    refine k_goesBeat hs w2 a2 r.1 c2.2 (by omega) (by omega) (fun g3 w3 f3 e3 => ⟨rfl, w3, ?_⟩)
    refine k_notesA (a := a) hs w3 (fun j hj => by rw [f3.c 116 (by decide) (by simp), e2 j hj, a1]) e3 gbA_al r.2.1 (fun g4 w4 f4 e4 => ⟨rfl, w4, ?_⟩)
    have ff : fr [110, 114, 115, 116] [(109, 0)] h g4 := ((f1.trans (f2.mono (by decide) (by simp))).trans (f3.mono (by decide) (by simp))).trans (f4.mono (by decide) (by simp))
    have HH := H g4 w4 ff e4
    obtain ⟨p1, p2, p3, p4⟩ := push_hist r.2.1 (gbA_al (a := a) (f := f) (wk := v - 1))
    rw [e4, p4 15 (by omega), p4 12 (by omega)]
    refine ⟨fun c3 => ?_, fun c3 => ?_⟩
    · simp only [if_neg c3] at HH; exact HH
    · simp only [if_pos c3] at HH; exact HH
  · rw [if_neg c] at H
    have : -10 ≤ whyBA a v ∧ whyBA a v ≤ 10 := by
      unfold whyBA
      repeat' split
      all_goals omega
    rw [am_w_id (by omega) (by omega)]
    exact H g1 w1 f1 a1
theorem k_beats_39 {n : Nat} {R : Nat → Int} (hs : am_sc scr) (hR : 0 ≤ R 30 ∧ R 30 ≤ 10) (hn : n ≤ 99) : ∀ (m k : Nat) (h : am_H) (a : Nat → Int) (B : Int), k + m = n → B + m < 1000000 → wf h → h.2.2.2 110 = a → rok a f B → alike R a → (∀ j, j < 18 → h.2.2.2 116 j = R (12 + j)) → 0 ≤ R 29 ∧ R 29 ≤ a 29 → (∀ g, wf g → fr [110, 114, 115] [] h g → g.2.2.2 110 = pushA (wasA R) (btsA f m a) → Q (some (.inl (btsA f m a 29 - R 29))) g) → am_R (am_prog scr) (d + 6) f_M_beats 39 [some (.inr (.inr ((109 : Nat) : Int))), some (.inl ((n : Int))), some (.inl ((k : Int)))] [] h Q := by
  intro m
  have fin : ∀ (k : Nat) (h : am_H) (a : Nat → Int) (B : Int), B < 1000000 → wf h → h.2.2.2 110 = a → rok a f B → alike R a → (∀ j, j < 18 → h.2.2.2 116 j = R (12 + j)) → 0 ≤ R 29 ∧ R 29 ≤ a 29 → (∀ g, wf g → fr [110, 114, 115] [] h g → g.2.2.2 110 = pushA (wasA R) a → Q (some (.inl (a 29 - R 29))) g) → am_R (am_prog scr) (d + 6) f_M_beats 66 [some (.inr (.inr ((109 : Nat) : Int))), some (.inl ((n : Int))), some (.inl ((k : Int)))] [] h Q := by
    intro k h a B hB hw ha r al h116 h29 H
    refine w_M_beats_66 hs hw ?_
    refine k_notesA (a := R) hs hw h116 ha al hR (fun g wg fg eg => ⟨rfl, wg, ?_⟩)
    obtain ⟨p1, p2, p3, p4⟩ := push_hist hR al
    have r5 := r.2.2.2.2
    rw [eg, p4 29 (by omega), fg.c 116 (by decide) (by simp), h116 17 (by omega), show R (12 + 17) = R 29 from rfl, am_w_id (by omega) (by omega)]
    exact H g wg (fg.mono (by decide) (by simp)) eg
  induction m with
  | zero =>
    intro k h a B hk hB hw ha r al h116 h29 H
    refine w_M_beats_39 hs hw ⟨fun c => ?_, fun c => by omega⟩
    exact fin k h a B (by omega) hw ha r al h116 h29 H
  | succ m ih =>
    intro k h a B hk hB hw ha r al h116 h29 H
    refine w_M_beats_39 hs hw ⟨fun c => by omega, fun c => ?_⟩
    simp only [btsA] at H
    refine k_standNowA hs hw ha r ⟨_, rfl, hw, ?_⟩
    refine k_isOverA hs hw ha r ⟨_, rfl, hw, fun c1 => ?_, fun c1 => ?_⟩
    · rw [i0, Decidable.not_not] at c1
      rw [if_pos c1] at H
      exact fin k h a B (by omega) hw ha r al h116 h29 H
    · rw [i0] at c1
      rw [if_neg c1] at H
      refine k_goesBeat hs hw ha r c1 (by omega) (by omega) (fun g wg fg eg => ⟨rfl, wg, fun y hy => ?_⟩)
      rw [am_w_id (by omega) (by omega)] at hy
      obtain rfl : y = ((k + 1 : Nat) : Int) := by omega
      have e := (gbA_e (a := a) (f := f) (wk := -1)).2.2.2.2.2
      refine ih (k + 1) g _ (B + 1) (by omega) (by omega) wg eg (gbA_ok r c1 _) (al.trans gbA_al) (fun j hj => by rw [fg.c 116 (by decide) (by simp)]; exact h116 j hj) ?_ (fun g2 w2 f2 e2 => H g2 w2 ((fg.mono (by decide) (by simp)).trans f2) e2)
      have h30 := h29
      refine ⟨h30.1, ?_⟩
      show R 29 ≤ gbA a f (-1) 29
      rw [e]
      split <;> omega
theorem k_Mbeats {n : Int} (hs : am_sc scr) (hw : wf h) (ha : h.2.2.2 110 = a) (r : hok a f B) (hB : B < 900000) (H : ∀ g, wf g → fr [110, 114, 115, 116] [(109, 0)] h g → g.2.2.2 110 = (q_beats a f n).2 → Q (some (.inl ((q_beats a f n).1))) g) : am_R (am_prog scr) (d + 6) f_M_beats 0 [some (.inr (.inr ((109 : Nat) : Int))), some (.inl (n)), none] [] h Q := by
  refine w_M_beats_0 hs hw (fun g1 q1 => ?_)
  have w1 : wf g1 := by rw [q1]; exact (put0 hw).1
  have f0 : fr [] [(109, 0)] h g1 := by rw [q1]; exact (put0 hw).2
  have a1 : g1.2.2.2 110 = a := (f0.c 110 (by simp) (by decide)).trans ha
  have f1 : fr [110, 114, 115, 116] [(109, 0)] h g1 := f0.mono (by simp) (by decide)
  unfold q_beats at H
  refine k_within hs w1 ⟨_, rfl, w1, fun c => ?_, fun c => ?_⟩
  · rw [i0, Decidable.not_not] at c
    rw [if_pos c] at H
    refine k_standNowA hs w1 a1 r.1 ⟨_, rfl, w1, ?_⟩
    refine k_isOverA hs w1 a1 r.1 ⟨_, rfl, w1, fun c1 => ?_, fun c1 => ?_⟩
    · rw [i0] at c1
      rw [if_neg c1] at H
      refine k_stores hs w1 (fun g2 w2 f2 e2 => ⟨rfl, w2, ?_⟩)
      have a2 : g2.2.2.2 110 = a := (f2.c 110 (by decide) (by simp)).trans a1
      have en : n = (n.toNat : Int) := by omega
      rw [en]
      exact k_beats_39 (n := n.toNat) hs r.2.1 (by omega) n.toNat 0 g2 a B (by omega) (by omega) w2 a2 r.1 alike.rfl (fun j hj => by rw [e2 j hj, a1]) ⟨r.1.2.2.2.2.1, by omega⟩ (fun g3 w3 f3 e3 => H g3 w3 ((f1.trans (f2.mono (by decide) (by simp))).trans (f3.mono (by decide) (by simp))) e3)
    · rw [i0, Decidable.not_not] at c1
      rw [if_pos c1] at H
      exact H g1 w1 f1 a1
  · rw [i0] at c
    rw [if_neg c] at H
    exact H g1 w1 f1 a1
theorem k_Mchange {s o : Int} (hs : am_sc scr) (hw : wf h) (ha : h.2.2.2 110 = a) (r : hok a f B) (H : ∀ g, wf g → fr [110, 116] [(109, 0)] h g → g.2.2.2 110 = (q_change a s o).2 → Q (some (.inl ((q_change a s o).1))) g) : am_R (am_prog scr) (d + 3) f_M_change 0 [some (.inr (.inr ((109 : Nat) : Int))), some (.inl (s)), some (.inl (o))] [] h Q := by
  have h4 := r.1.1.1
  refine w_M_change_0 hs hw (fun g1 q1 => ?_)
  have w1 : wf g1 := by rw [q1]; exact (put0 hw).1
  have f0 : fr [] [(109, 0)] h g1 := by rw [q1]; exact (put0 hw).2
  have a1 : g1.2.2.2 110 = a := (f0.c 110 (by simp) (by decide)).trans ha
  have f1 : fr [110, 116] [(109, 0)] h g1 := f0.mono (by simp) (by decide)
  unfold q_change at H
  refine k_areTwo hs w1 (by rw [a1]; exact h4) ⟨_, rfl, w1, fun c => ?_, fun c => ?_⟩
  · rw [i0, Decidable.not_not, a1] at c
    rw [if_pos c] at H
    refine k_stores hs w1 (fun g2 w2 f2 e2 => ⟨rfl, w2, ?_⟩)
    have a2 : g2.2.2.2 110 = a := (f2.c 110 (by decide) (by simp)).trans a1
    refine k_changes hs w2 a2 (by omega) (by omega) (fun g3 w3 f3 e3 => ⟨rfl, w3, ?_⟩)
    have al : alike a (chA a s o) := fun j hj => by unfold chA; rw [if_neg (by omega), if_neg (by omega)]
    refine k_notesA (a := a) hs w3 (fun j hj => by rw [f3.c 116 (by decide) (by simp), e2 j hj, a1]) e3 al r.2.1 (fun g4 w4 f4 e4 => ⟨rfl, w4, ?_⟩)
    obtain ⟨p1, p2, p3, p4⟩ := push_hist r.2.1 al
    rw [am_w_id (by omega) (by omega)]
    refine ⟨by omega, ?_⟩
    have e : g4.2.2.2 110 (16 + s).toNat = a (16 + o).toNat := by
      rw [e4, p4 _ (by omega)]
      unfold chA
      rw [if_neg (by omega), if_pos rfl]
    rw [e]
    exact H g4 w4 (((f1.trans (f2.mono (by decide) (by simp))).trans (f3.mono (by decide) (by simp))).trans (f4.mono (by decide) (by simp))) e4
  · rw [i0, a1] at c
    rw [if_neg c] at H
    exact H g1 w1 f1 a1
theorem k_Mdream {s n : Int} (hs : am_sc scr) (hw : wf h) (ha : h.2.2.2 110 = a) (r : hok a f B) (H : ∀ g, wf g → fr [110, 116] [(109, 0)] h g → g.2.2.2 110 = (q_dream a s n).2 → Q (some (.inl ((q_dream a s n).1))) g) : am_R (am_prog scr) (d + 2) f_M_dream 0 [some (.inr (.inr ((109 : Nat) : Int))), some (.inl (s)), some (.inl (n))] [] h Q := by
  have h4 := r.1.1.1
  refine w_M_dream_0 hs hw (fun g1 q1 => ?_)
  have w1 : wf g1 := by rw [q1]; exact (put0 hw).1
  have f0 : fr [] [(109, 0)] h g1 := by rw [q1]; exact (put0 hw).2
  have a1 : g1.2.2.2 110 = a := (f0.c 110 (by simp) (by decide)).trans ha
  have f1 : fr [110, 116] [(109, 0)] h g1 := f0.mono (by simp) (by decide)
  unfold q_dream at H
  refine k_isSleeper hs w1 (by rw [a1]; exact h4) (fun z hz => ⟨_, rfl, w1, fun c => ?_, fun c => ?_⟩)
  · rw [a1] at hz
    rw [if_neg (by omega)] at H
    exact H g1 w1 f1 a1
  · rw [a1] at hz
    refine k_within hs w1 ⟨_, rfl, w1, fun c2 => ?_, fun c2 => ?_⟩
    · rw [i0, Decidable.not_not] at c2
      rw [if_pos (by omega)] at H
      refine k_stores hs w1 (fun g2 w2 f2 e2 => ⟨rfl, w2, ?_⟩)
      have a2 : g2.2.2.2 110 = a := (f2.c 110 (by decide) (by simp)).trans a1
      rw [am_w_id (x := 22 + s) (by omega) (by omega), am_w_id (x := 10 + s) (by omega) (by omega)]
      refine ⟨by omega, fun g3 q3 => ?_⟩
      have w3 : wf g3 := by rw [q3]; exact w2.pa (by decide +kernel)
      have f3 : fr [110] [] g2 g3 := by rw [q3]; exact fr.rfl.put (Or.inl (by decide))
      have e3 : g3.2.2.2 110 = drA a s n := by
        rw [q3]; funext j; simp only [put_at, true_and]; rw [a2]; rfl
      have al : alike a (drA a s n) := fun j hj => by unfold drA; rw [if_neg (by omega)]
      refine k_notesA (a := a) hs w3 (fun j hj => by rw [f3.c 116 (by decide) (by simp), e2 j hj, a1]) e3 al r.2.1 (fun g4 w4 f4 e4 => ⟨rfl, w4, by omega, ?_⟩)
      have e : g4.2.2.2 116 (10 + s).toNat = a (22 + s).toNat := by
        rw [f4.c 116 (by decide) (by simp), f3.c 116 (by decide) (by simp), e2 _ (by omega), a1]
        exact cg a (by omega)
      rw [e]
      exact H g4 w4 (((f1.trans (f2.mono (by decide) (by simp))).trans (f3.mono (by decide) (by simp))).trans (f4.mono (by decide) (by simp))) e4
    · rw [i0] at c2
      rw [if_neg (by omega)] at H
      exact H g1 w1 f1 a1
theorem k_Mhush {n : Int} (hs : am_sc scr) (hw : wf h) (ha : h.2.2.2 110 = a) (r : hok a f B) (H : ∀ g, wf g → fr [110, 116] [(109, 0)] h g → g.2.2.2 110 = (q_hush a n).2 → Q (some (.inl ((q_hush a n).1))) g) : am_R (am_prog scr) (d + 1) f_M_hush 0 [some (.inr (.inr ((109 : Nat) : Int))), some (.inl (n))] [] h Q := by
  refine w_M_hush_0 hs hw (fun g1 q1 => ?_)
  have w1 : wf g1 := by rw [q1]; exact (put0 hw).1
  have f0 : fr [] [(109, 0)] h g1 := by rw [q1]; exact (put0 hw).2
  have a1 : g1.2.2.2 110 = a := (f0.c 110 (by simp) (by decide)).trans ha
  have f1 : fr [110, 116] [(109, 0)] h g1 := f0.mono (by simp) (by decide)
  unfold q_hush at H
  refine k_within hs w1 ⟨_, rfl, w1, fun c => ?_, fun c => ?_⟩
  · rw [i0, Decidable.not_not] at c
    rw [if_pos c] at H
    refine k_stores hs w1 (fun g2 w2 f2 e2 => ⟨rfl, w2, fun g3 q3 => ?_⟩)
    have a2 : g2.2.2.2 110 = a := (f2.c 110 (by decide) (by simp)).trans a1
    have w3 : wf g3 := by rw [q3]; exact w2.pa (by decide +kernel)
    have f3 : fr [110] [] g2 g3 := by rw [q3]; exact fr.rfl.put (Or.inl (by decide))
    have e3 : g3.2.2.2 110 = huA a n := by
      rw [q3]; funext j; simp only [put_at, true_and]; rw [a2]; rfl
    have al : alike a (huA a n) := fun j hj => by unfold huA; rw [if_neg (by omega)]
    refine k_notesA (a := a) hs w3 (fun j hj => by rw [f3.c 116 (by decide) (by simp), e2 j hj, a1]) e3 al r.2.1 (fun g4 w4 f4 e4 => ⟨rfl, w4, ?_⟩)
    have e : g4.2.2.2 116 16 = a 28 := by
      rw [f4.c 116 (by decide) (by simp), f3.c 116 (by decide) (by simp), e2 _ (by omega), a1]
    rw [e]
    exact H g4 w4 (((f1.trans (f2.mono (by decide) (by simp))).trans (f3.mono (by decide) (by simp))).trans (f4.mono (by decide) (by simp))) e4
  · rw [i0] at c
    rw [if_neg c] at H
    exact H g1 w1 f1 a1
theorem k_Mundo {n : Int} (hs : am_sc scr) (hw : wf h) (ha : h.2.2.2 110 = a) (r : hok a f B) (H : ∀ g, wf g → fr [110] [(109, 0)] h g → g.2.2.2 110 = (q_undo a n).2 → Q (some (.inl ((q_undo a n).1))) g) : am_R (am_prog scr) (d + 1) f_M_undo 0 [some (.inr (.inr ((109 : Nat) : Int))), some (.inl (n)), none] [] h Q := by
  have h30 := r.2.1
  refine w_M_undo_0 hs hw (fun g1 q1 => ?_)
  have w1 : wf g1 := by rw [q1]; exact (put0 hw).1
  have f0 : fr [] [(109, 0)] h g1 := by rw [q1]; exact (put0 hw).2
  have a1 : g1.2.2.2 110 = a := (f0.c 110 (by simp) (by decide)).trans ha
  have f1 : fr [110] [(109, 0)] h g1 := f0.mono (by simp) (by decide)
  unfold q_undo at H
  refine k_within hs w1 ⟨_, rfl, w1, fun c => ?_, fun c => ?_⟩
  · rw [i0] at c
    rw [if_neg (by omega)] at H
    exact H g1 w1 f1 a1
  · rw [i0, Decidable.not_not] at c
    rw [a1]
    refine ⟨fun c2 g2 q2 => ?_, fun c2 => ?_⟩
    · rw [if_pos (by omega)] at H
      rw [am_w_id (by omega) (by omega)] at q2
      have w2 : wf g2 := by rw [q2]; exact w1.pa (by decide +kernel)
      have f2 : fr [110] [] g1 g2 := by rw [q2]; exact fr.rfl.put (Or.inl (by decide))
      have e2 : ∀ j, g2.2.2.2 110 j = if j = 30 then a 30 - n else a j := by
        intro j; rw [q2]; simp only [put_at, true_and]; rw [a1]
      refine down (n := 18) (I := fillI g2 110 12 (fun j => a (31 + 18 * (a 30 - n).toNat + (j - 12)))) (R := fun i g => am_R (am_prog scr) (d + 1) f_M_undo 44 [some (.inr (.inr ((109 : Nat) : Int))), some (.inl (n)), some (.inl ((i : Int)))] [] g Q) ?_ ?_ 18 0 g2 rfl (fillI.zero w2)
      · intro g hI
        refine w_M_undo_44 hs hI.1 ⟨fun _ => ?_, fun c => by omega⟩
        have e30 : g.2.2.2 110 30 = a 30 - n := by rw [hI.2.2 30, if_neg (by omega), e2 30, if_pos rfl]
        rw [e30]
        refine H g hI.1 ((f1.trans (f2.mono (by decide) (by simp))).trans (hI.2.1.mono (by decide) (by simp))) ?_
        funext j
        rw [hI.2.2 j, e2 j]
        unfold undA
        rfl
      · intro i g hi hI k
        have e30 : g.2.2.2 110 30 = a 30 - n := by rw [hI.2.2 30, if_neg (by omega), e2 30, if_pos rfl]
        refine w_M_undo_44 hs hI.1 ⟨fun c => by omega, fun c => ?_⟩
        rw [e30, am_w_id (x := 18 * (a 30 - n)) (by omega) (by omega), am_w_id (x := 31 + 18 * (a 30 - n)) (by omega) (by omega), am_w_id (x := 31 + 18 * (a 30 - n) + (i : Int)) (by omega) (by omega), am_w_id (x := 12 + (i : Int)) (by omega) (by omega)]
        refine ⟨by omega, by omega, fun g3 q3 y hy => ?_⟩
        rw [am_w_id (by omega) (by omega)] at hy
        subst hy
        refine k g3 ?_
        rw [q3]
        refine hI.put (by decide +kernel) (by omega) ?_
        rw [hI.2.2 _, if_neg (by omega), e2 _, if_neg (by omega)]
        exact cg a (by omega)
    · rw [if_neg (by omega)] at H
      exact H g1 w1 f1 a1
theorem k_noTray {t : Int} (hs : am_sc scr) (hw : wf h) (H : Q (some (.inl (if 0 ≤ t ∧ t ≤ 3 then (if h.2.2.2 130 t.toNat = -1 then -6 else 0) else -2))) h) : am_R (am_prog scr) (d + 1) f_M_noTray 0 [some (.inr (.inr ((109 : Nat) : Int))), some (.inl (t))] [] h Q := by
  refine w_M_noTray_0 hs hw ?_
  refine k_within hs hw ⟨_, rfl, hw, fun c => ?_, fun c => ?_⟩
  · rw [i0, Decidable.not_not] at c
    rw [if_pos c] at H
    refine ⟨by omega, fun c2 => ?_, fun c2 => ?_⟩
    · rw [if_neg c2] at H; exact H
    · rw [if_pos c2] at H; exact H
  · rw [i0] at c
    rw [if_neg c] at H
    exact H
theorem k_lastNow (hs : am_sc scr) (hw : wf h) (H : Q (some (.inl (if h.2.2.2 110 4 = 0 then -1 else h.2.2.2 110 12))) h) : am_R (am_prog scr) d f_M_lastNow 0 [some (.inr (.inr ((109 : Nat) : Int)))] [] h Q := by
  refine w_M_lastNow_0 hs hw ⟨fun c => ?_, fun c => ?_⟩
  · rw [if_neg c] at H; exact H
  · rw [if_pos c] at H; exact H
/-- of the reference's trays: tray t is there with n numbers -/
def trM (h : am_H) (t : Int) (n : Nat) (num : Nat → Int) : Prop := n ≤ 40 ∧ h.2.2.2 131 t.toNat = n ∧ ∀ i, i < n → numM h t i = num i
theorem k_Mjudge {t w : Int} {n : Nat} {num : Nat → Int} (hs : am_sc scr) (hw : wf h) (ha : h.2.2.2 110 = a) (r : hok a f B) (hB : B < 900000) (ht : (0 ≤ t ∧ t ≤ 3) → h.2.2.2 130 t.toNat ≠ -1 → trM h t n num) (H : ∀ g, wf g → fr [110, 114, 115, 116] [(109, 0), (109, 18)] h g → g.2.2.2 110 = a → Q (some (.inl (if 0 ≤ w ∧ w ≤ 3 then (if 0 ≤ t ∧ t ≤ 3 then (if h.2.2.2 130 t.toNat = -1 then -6 else q_judge a f num n w) else -2) else -2))) g) : am_R (am_prog scr) (d + 8) f_M_judge 0 [some (.inr (.inr ((109 : Nat) : Int))), some (.inl (t)), some (.inl (w)), none, none, none, none] [] h Q := by
  have h4 := r.1.1.1
  refine w_M_judge_0 hs hw (fun g1 q1 => ?_)
  have w1 : wf g1 := by rw [q1]; exact (put0 hw).1
  have f0 : fr [] [(109, 0)] h g1 := by rw [q1]; exact (put0 hw).2
  have a1 : g1.2.2.2 110 = a := (f0.c 110 (by simp) (by decide)).trans ha
  have f1 : fr [110, 114, 115, 116] [(109, 0), (109, 18)] h g1 := f0.mono (by simp) (by decide)
  refine k_within hs w1 ⟨_, rfl, w1, fun c => ?_, fun c => ?_⟩
  · rw [i0, Decidable.not_not] at c
    rw [if_pos c] at H
    refine k_noTray hs w1 ⟨_, rfl, w1, fun c2 => ?_, fun c2 => ?_⟩
    · rw [f0.c 130 (by simp) (by decide)] at c2
      have c3 : 0 ≤ t ∧ t ≤ 3 := by
        apply Decidable.byContradiction; intro q; rw [if_neg q] at c2; omega
      rw [if_pos c3] at c2 H
      have c4 : h.2.2.2 130 t.toNat ≠ -1 := by
        intro q; rw [if_pos q] at c2; omega
      rw [if_neg c4] at H
      obtain ⟨t1, t2, t3⟩ := ht c3 c4
      refine k_stores hs w1 (fun g2 w2 f2 e2 => ⟨rfl, w2, ?_⟩)
      have a2 : g2.2.2.2 110 = a := (f2.c 110 (by decide) (by simp)).trans a1
      refine k_tells (n := n) (num := num) hs w2 a2 r.1 (by omega) (by omega) t1 (by rw [f2.c 131 (by decide) (by simp), f0.c 131 (by simp) (by decide)]; exact t2) (fun i hi => by unfold numM; rw [f2.c 132 (by decide) (by simp), f0.c 132 (by simp) (by decide)]; exact t3 i hi) (fun g3 w3 f3 e3 e4 => ⟨_, rfl, w3, ?_⟩)
      have al := telA_al (f := f) (num := num) n 0 a (by omega)
      have tk := telA_ok (f := f) (num := num) n 0 a B r.1
      refine k_lastNow hs w3 ⟨_, rfl, w3, fun y hy => ?_⟩
      have e116 : ∀ j, j < 18 → g3.2.2.2 116 j = a (12 + j) := fun j hj => by rw [f3.c 116 (by decide) (by decide), e2 j hj, a1]
      have r3 := tk.1.2.2.1
      have o3 := tk.1.1.2.2.1
      have o2 := tk.1.1.2.1
      rw [e3, am_w_id (x := 10 * (telA f num n 0 a).1 14) (by omega) (by omega), am_w_id (by omega) (by omega)] at hy
      refine k_isAgain hs w3 (fun g4 w4 f4 e5 => ⟨rfl, w4, ?_⟩)
      have a4 : g4.2.2.2 110 = a := by
        funext j
        rw [e5 j, e3]
        by_cases q : 12 ≤ j ∧ j < 30
        · rw [if_pos q, e116 _ (by omega)]; exact cg a (by omega)
        · rw [if_neg q]; exact al j (by omega)
      have e18 : g4.2.2.2 109 18 = (telA f num n 0 a).2.2 := by rw [f4.f 109 18 (by decide) (by simp)]; exact e4
      have HH := H g4 w4 (((f1.trans (f2.mono (by decide) (by simp))).trans (f3.mono (by decide) (by decide))).trans (f4.mono (by decide) (by simp))) a4
      unfold q_judge at HH
      rw [e18, e3, al 4 (by omega)]
      refine ⟨fun c5 => ⟨fun c6 => ⟨fun c7 => ?_, fun c7 => ?_⟩, fun c6 => ?_⟩, fun c5 => ⟨fun c6 => ?_, fun c6 => ?_⟩⟩
      · rw [if_neg c5, if_neg c6, if_neg c7, ← hy] at HH; exact HH
      · rw [if_neg c5, if_neg c6, if_pos c7] at HH; exact HH
      · rw [if_neg c5, if_pos c6] at HH; exact HH
      · rw [if_pos c5, if_neg c6] at HH; exact HH
      · rw [if_pos c5, if_pos c6] at HH; exact HH
    · rw [f0.c 130 (by simp) (by decide)] at c2 ⊢
      have HH := H g1 w1 f1 a1
      by_cases c3 : 0 ≤ t ∧ t ≤ 3
      · rw [if_pos c3] at c2 HH ⊢
        by_cases c4 : h.2.2.2 130 t.toNat = -1
        · rw [if_pos c4] at HH ⊢; exact HH
        · rw [if_neg c4] at c2; omega
      · rw [if_neg c3] at HH ⊢; exact HH
  · rw [i0] at c
    rw [if_neg c] at H
    exact H g1 w1 f1 a1
theorem k_Mperform {t : Int} {n : Nat} {num : Nat → Int} (hs : am_sc scr) (hw : wf h) (ha : h.2.2.2 110 = a) (r : hok a f B) (hB : B < 900000) (ht : (0 ≤ t ∧ t ≤ 3) → h.2.2.2 130 t.toNat ≠ -1 → trM h t n num) (H : ∀ g, wf g → fr [110, 114, 115, 116] [(109, 0), (109, 18)] h g → g.2.2.2 110 = (if 0 ≤ t ∧ t ≤ 3 ∧ h.2.2.2 130 t.toNat ≠ -1 then (q_perform a f num n).2 else a) → Q (some (.inl (if 0 ≤ t ∧ t ≤ 3 then (if h.2.2.2 130 t.toNat = -1 then -6 else (q_perform a f num n).1) else -2))) g) : am_R (am_prog scr) (d + 8) f_M_perform 0 [some (.inr (.inr ((109 : Nat) : Int))), some (.inl (t)), none, none] [] h Q := by
  have h4 := r.1.1.1
  refine w_M_perform_0 hs hw (fun g1 q1 => ?_)
  have w1 : wf g1 := by rw [q1]; exact (put0 hw).1
  have f0 : fr [] [(109, 0)] h g1 := by rw [q1]; exact (put0 hw).2
  have a1 : g1.2.2.2 110 = a := (f0.c 110 (by simp) (by decide)).trans ha
  have f1 : fr [110, 114, 115, 116] [(109, 0), (109, 18)] h g1 := f0.mono (by simp) (by decide)
  refine k_noTray hs w1 ⟨_, rfl, w1, fun c2 => ?_, fun c2 => ?_⟩
  · rw [f0.c 130 (by simp) (by decide)] at c2
    have c3 : 0 ≤ t ∧ t ≤ 3 := by
      apply Decidable.byContradiction; intro q; rw [if_neg q] at c2; omega
    rw [if_pos c3] at c2
    have c4 : h.2.2.2 130 t.toNat ≠ -1 := by
      intro q; rw [if_pos q] at c2; omega
    rw [if_pos c3, if_neg c4, if_pos ⟨c3.1, c3.2, c4⟩] at H
    obtain ⟨t1, t2, t3⟩ := ht c3 c4
    refine k_stores hs w1 (fun g2 w2 f2 e2 => ⟨rfl, w2, ?_⟩)
    have a2 : g2.2.2.2 110 = a := (f2.c 110 (by decide) (by simp)).trans a1
    refine k_tells (n := n) (num := num) hs w2 a2 r.1 (by omega) (by omega) t1 (by rw [f2.c 131 (by decide) (by simp), f0.c 131 (by simp) (by decide)]; exact t2) (fun i hi => by unfold numM; rw [f2.c 132 (by decide) (by simp), f0.c 132 (by simp) (by decide)]; exact t3 i hi) (fun g3 w3 f3 e3 e4 => ⟨_, rfl, w3, ?_⟩)
    have al := telA_al (f := f) (num := num) n 0 a (by omega)
    have ff : fr [110, 114, 115, 116] [(109, 0), (109, 18)] h g3 := (f1.trans (f2.mono (by decide) (by simp))).trans (f3.mono (by decide) (by decide))
    unfold q_perform at H
    refine ⟨fun c5 => ?_, fun c5 => ?_⟩
    · rw [if_neg (by omega)] at H
      refine H g3 w3 ff ?_
      rw [e3]
      exact telA_0 n 0 a (by omega)
    · rw [if_pos (by omega)] at H
      refine k_notesA (a := a) hs w3 (fun j hj => by rw [f3.c 116 (by decide) (by decide), e2 j hj, a1]) e3 al r.2.1 (fun g4 w4 f4 e4 => ⟨rfl, w4, ?_⟩)
      exact H g4 w4 (ff.trans (f4.mono (by decide) (by simp))) e4
  · rw [f0.c 130 (by simp) (by decide)] at c2 ⊢
    by_cases c3 : 0 ≤ t ∧ t ≤ 3
    · rw [if_pos c3] at c2 H ⊢
      by_cases c4 : h.2.2.2 130 t.toNat = -1
      · rw [if_pos c4] at H ⊢; exact H g1 w1 f1 (by rw [if_neg (fun q => q.2.2 c4)]; exact a1)
      · rw [if_neg c4] at c2; omega
    · rw [if_neg c3] at H ⊢; exact H g1 w1 f1 (by rw [if_neg (by omega)]; exact a1)
theorem k_draw {m x : Int} (hs : am_sc scr) (hw : wf h) (hx : h.2.2.2 109 19 = x) (hm : 1 ≤ m) (H : ∀ g, wf g → fr [] [(109, 19)] h g → g.2.2.2 109 19 = lcg x → Q (some (.inl (drw x m))) g) : am_R (am_prog scr) d f_M_draw 0 [some (.inr (.inr ((109 : Nat) : Int))), some (.inl (m))] [] h Q := by
  refine w_M_draw_0 hs hw (fun g q => ⟨by omega, ?_⟩)
  rw [hx, lcg_eq] at q
  have e : g.2.2.2 109 19 = lcg x := by rw [q]; exact put_eq
  rw [e, tm (ushr16 _).1]
  exact H g (by rw [q]; exact hw.put np_109_19) (by rw [q]; exact fr.rfl.put (Or.inr (by decide))) e
theorem drw_b {x m : Int} (hm : 1 ≤ m) : 0 ≤ drw x m ∧ drw x m < m := ⟨Int.emod_nonneg _ (by omega), Int.emod_lt_of_pos _ (by omega)⟩
theorem k_drawn {x : Int} (hs : am_sc scr) (hw : wf h) (hx : h.2.2.2 109 19 = x) (H : ∀ g, wf g → fr [] [(109, 19)] h g → g.2.2.2 109 19 = (deedD x).2 → Q (some (.inl ((deedD x).1))) g) : am_R (am_prog scr) (d + 1) f_M_drawn 0 [some (.inr (.inr ((109 : Nat) : Int))), none, none] [] h Q := by
  unfold deedD at H
  refine w_M_drawn_0 hs hw ?_
  refine k_draw hs hw hx (by omega) (fun g1 w1 f1 e1 => ⟨_, rfl, w1, fun c1 => ⟨fun c2 => ?_, fun c2 => ⟨fun c3 => ?_, fun c3 => ?_⟩⟩, fun c1 => ?_⟩)
  · rw [if_neg c1, if_neg (by omega), if_neg (by omega)] at H
    refine k_draw hs w1 e1 (by omega) (fun g2 w2 f2 e2 => ⟨_, rfl, w2, fun c3 => ?_, fun c3 => ?_⟩)
    · rw [if_neg c3] at H
      refine k_draw hs w2 e2 (by omega) (fun g3 w3 f3 e3 => ⟨_, rfl, w3, ?_⟩)
      have b1 := drw_b (x := lcg x) (m := 6) (by omega)
      have b2 := drw_b (x := lcg (lcg x)) (m := 10) (by omega)
      rw [am_w_id (x := 10 * drw (lcg x) 6) (by omega) (by omega), am_w_id (x := 200 + 10 * drw (lcg x) 6) (by omega) (by omega), am_w_id (by omega) (by omega)]
      exact H g3 w3 ((f1.trans f2).trans f3) e3
    · rw [if_pos c3] at H
      refine k_draw hs w2 e2 (by omega) (fun g3 w3 f3 e3 => ⟨_, rfl, w3, ?_⟩)
      have b1 := drw_b (x := lcg x) (m := 6) (by omega)
      have b2 := drw_b (x := lcg (lcg x)) (m := 6) (by omega)
      rw [am_w_id (x := 10 * drw (lcg x) 6) (by omega) (by omega), am_w_id (x := 100 + 10 * drw (lcg x) 6) (by omega) (by omega), am_w_id (by omega) (by omega)]
      exact H g3 w3 ((f1.trans f2).trans f3) e3
  · rw [if_neg c1, if_neg c3, if_pos (by omega)] at H
    refine k_draw hs w1 e1 (by omega) (fun g2 w2 f2 e2 => ⟨_, rfl, w2, ?_⟩)
    have b2 := drw_b (x := lcg x) (m := 10) (by omega)
    rw [am_w_id (by omega) (by omega)]
    exact H g2 w2 (f1.trans f2) e2
  · rw [if_neg c1, if_pos c3] at H
    exact k_draw hs w1 e1 (by omega) (fun g2 w2 f2 e2 => ⟨_, rfl, w2, H g2 w2 (f1.trans f2) e2⟩)
  · rw [if_pos c1] at H
    exact H g1 w1 f1 e1
theorem deedD_b {x : Int} : 0 ≤ (deedD x).1 ∧ (deedD x).1 < 300 := by
  have b1 := drw_b (x := lcg x) (m := 6) (by omega)
  have b2 := drw_b (x := lcg x) (m := 7) (by omega)
  have b3 := drw_b (x := lcg x) (m := 10) (by omega)
  have b4 := drw_b (x := lcg (lcg x)) (m := 6) (by omega)
  have b5 := drw_b (x := lcg (lcg x)) (m := 10) (by omega)
  unfold deedD
  repeat' split
  all_goals simp only; omega
theorem k_night_34 {n : Nat} {R : Nat → Int} {sd : Int} (hs : am_sc scr) (hR : 0 ≤ R 30 ∧ R 30 ≤ 10) (hn : n ≤ 40) : ∀ (m k c : Nat) (x : Int) (h : am_H) (a : Nat → Int) (B : Int), k + m = n → c ≤ k → B + m < 1000000 → wf h → h.2.2.2 110 = a → rok a f B → alike R a → (∀ j, j < 18 → h.2.2.2 116 j = R (12 + j)) → h.2.2.2 109 19 = x → (∀ g, wf g → fr [110, 114, 115] [(109, 19)] h g → g.2.2.2 110 = pifA (nigA f m x c a).2 R (nigA f m x c a).1 → Q (some (.inl (((nigA f m x c a).2 : Int)))) g) → am_R (am_prog scr) (d + 8) f_M_night 34 [some (.inr (.inr ((109 : Nat) : Int))), some (.inl (sd)), some (.inl ((n : Int))), some (.inl ((c : Int))), some (.inl ((k : Int))), none] [] h Q := by
  intro m
  induction m with
  | zero =>
    intro k c x h a B hk hc hB hw ha r al h116 hx H
    simp only [nigA] at H
    refine w_M_night_34 hs hw ⟨fun _ => ⟨fun c1 => ?_, fun c1 => ?_⟩, fun c1 => by omega⟩
    · unfold pifA at H
      rw [if_pos (by omega)] at H
      exact H h hw fr.rfl ha
    · unfold pifA at H
      rw [if_neg (by omega)] at H
      exact k_notesA (a := R) hs hw h116 ha al hR (fun g wg fg eg => ⟨rfl, wg, H g wg (fg.mono (by decide) (by simp)) eg⟩)
  | succ m ih =>
    intro k c x h a B hk hc hB hw ha r al h116 hx H
    simp only [nigA] at H
    have h4 := r.1.1
    refine w_M_night_34 hs hw ⟨fun c1 => by omega, fun c1 => ?_⟩
    refine k_drawn hs hw hx (fun g1 w1 f1 e1 => ⟨_, rfl, w1, ?_⟩)
    have a1 : g1.2.2.2 110 = a := (f1.c 110 (by simp) (by decide)).trans ha
    refine k_whyNotM hs w1 a1 r ⟨_, rfl, w1, fun c2 => ?_, fun c2 y hy => ?_⟩
    · rw [if_pos c2] at H
      refine k_does hs w1 a1 r c2 (by omega) (fun g2 w2 f2 e2 => ⟨rfl, w2, fun y hy y2 hy2 => ?_⟩)
      rw [am_w_id (by omega) (by omega)] at hy hy2
      obtain rfl : y = ((c + 1 : Nat) : Int) := by omega
      obtain rfl : y2 = ((k + 1 : Nat) : Int) := by omega
      have ff : fr [110, 114, 115] [(109, 19)] h g2 := (f1.mono (by simp) (by decide)).trans (f2.mono (by decide) (by simp))
      refine ih (k + 1) (c + 1) (deedD x).2 g2 _ (B + 1) (by omega) (by omega) (by omega) w2 e2 (doA_ok r c2) (al.trans (doA_al (by omega) c2)) (fun j hj => by rw [f2.c 116 (by decide) (by simp), f1.c 116 (by simp) (by decide)]; exact h116 j hj) (by rw [f2.f 109 19 (by decide) (by simp)]; exact e1) (fun g3 w3 f3 e3 => H g3 w3 (ff.trans f3) e3)
    · rw [if_neg c2] at H
      rw [am_w_id (by omega) (by omega)] at hy
      obtain rfl : y = ((k + 1 : Nat) : Int) := by omega
      refine ih (k + 1) c (deedD x).2 g1 a B (by omega) (by omega) (by omega) w1 a1 r al (fun j hj => by rw [f1.c 116 (by simp) (by decide)]; exact h116 j hj) e1 (fun g3 w3 f3 e3 => H g3 w3 ((f1.mono (by simp) (by decide)).trans f3) e3)
theorem k_Mnight {x n : Int} (hs : am_sc scr) (hw : wf h) (ha : h.2.2.2 110 = a) (r : hok a f B) (hB : B < 900000) (H : ∀ g, wf g → fr [110, 114, 115, 116] [(109, 0), (109, 19)] h g → g.2.2.2 110 = (q_night a f x n).2 → Q (some (.inl ((q_night a f x n).1))) g) : am_R (am_prog scr) (d + 8) f_M_night 0 [some (.inr (.inr ((109 : Nat) : Int))), some (.inl (x)), some (.inl (n)), none, none, none] [] h Q := by
  refine w_M_night_0 hs hw (fun g1 q1 => ?_)
  have w1 : wf g1 := by rw [q1]; exact (put0 hw).1
  have f0 : fr [] [(109, 0)] h g1 := by rw [q1]; exact (put0 hw).2
  have a1 : g1.2.2.2 110 = a := (f0.c 110 (by simp) (by decide)).trans ha
  have f1 : fr [110, 114, 115, 116] [(109, 0), (109, 19)] h g1 := f0.mono (by simp) (by decide)
  unfold q_night at H
  refine k_within hs w1 ⟨_, rfl, w1, fun c => ?_, fun c => ?_⟩
  · rw [i0, Decidable.not_not] at c
    rw [if_pos c] at H
    refine k_stores hs w1 (fun g2 w2 f2 e2 => ⟨rfl, w2, fun g3 q3 => ?_⟩)
    have w3 : wf g3 := by rw [q3]; exact w2.put np_109_19
    have f3 : fr [] [(109, 19)] g2 g3 := by rw [q3]; exact fr.rfl.put (Or.inr (by decide))
    have a3 : g3.2.2.2 110 = a := ((f3.c 110 (by simp) (by decide)).trans (f2.c 110 (by decide) (by simp))).trans a1
    have en : n = (n.toNat : Int) := by omega
    rw [en]
    refine k_night_34 (n := n.toNat) hs r.2.1 (by omega) n.toNat 0 0 x g3 a B (by omega) (by omega) (by omega) w3 a3 r.1 alike.rfl (fun j hj => by rw [f3.c 116 (by simp) (by decide), e2 j hj, a1]) (by rw [q3]; exact put_eq) (fun g4 w4 f4 e4 => ?_)
    have ff : fr [110, 114, 115, 116] [(109, 0), (109, 19)] h g4 := ((f1.trans (f2.mono (by decide) (by simp))).trans (f3.mono (by simp) (by decide))).trans (f4.mono (by decide) (by decide))
    refine H g4 w4 ff ?_
    rw [e4]
    unfold pifA
    by_cases q : (nigA f n.toNat x 0 a).2 = 0
    · rw [if_pos q]
      simp only
      rw [if_neg (by omega)]
      exact nigA_0 _ _ _ _ q
    · rw [if_neg q]
      simp only
      rw [if_pos (by omega)]
  · rw [i0] at c
    rw [if_neg c] at H
    exact H g1 w1 f1 a1
end ME
