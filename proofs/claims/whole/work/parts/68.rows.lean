/-! sums; rows counted: what is meant, and the reference -/
def sumZ (u : Nat → Int) : Nat → Int
  | 0 => 0
  | n + 1 => sumZ u n + u n
theorem sumZ_congr {u v : Nat → Int} : ∀ {n : Nat}, (∀ i, i < n → v i = u i) → sumZ v n = sumZ u n := by
  intro n
  induction n with
  | zero => intro _; rfl
  | succ n ih => intro h; simp only [sumZ]; rw [ih (fun i hi => h i (by omega)), h n (by omega)]
theorem sumZ_upd {u v : Nat → Int} : ∀ {n k : Nat}, k < n → (∀ i, i < n → i ≠ k → v i = u i) → sumZ v n = sumZ u n + (v k - u k) := by
  intro n
  induction n with
  | zero => intro k hk; omega
  | succ n ih =>
    intro k hk h
    simp only [sumZ]
    by_cases q : k = n
    · subst q
      rw [sumZ_congr (fun i hi => h i (by omega) (by omega))]
      omega
    · rw [ih (k := k) (by omega) (fun i hi hk2 => h i (by omega) hk2), h n (by omega) (by omega)]
      omega
theorem sumZ_nn {u : Nat → Int} : ∀ {n : Nat}, (∀ i, i < n → 0 ≤ u i) → 0 ≤ sumZ u n := by
  intro n
  induction n with
  | zero => intro _; simp [sumZ]
  | succ n ih => intro h; simp only [sumZ]; have := ih (fun i hi => h i (by omega)); have := h n (by omega); omega
theorem sumZ_el {u : Nat → Int} : ∀ {n k : Nat}, (∀ i, i < n → 0 ≤ u i) → k < n → u k ≤ sumZ u n := by
  intro n
  induction n with
  | zero => intro k _ hk; omega
  | succ n ih =>
    intro k h hk
    simp only [sumZ]
    by_cases q : k = n
    · subst q; have := sumZ_nn (n := k) (fun i hi => h i (by omega)); omega
    · have := ih (k := k) (fun i hi => h i (by omega)) (by omega); have := h n (by omega); omega
theorem sumZ_zero {u : Nat → Int} {n : Nat} (h : ∀ i, i < n → u i = 0) : sumZ u n = 0 := by
  rw [sumZ_congr (u := fun _ => 0) h]
  clear h
  induction n with
  | zero => rfl
  | succ n ih => simp only [sumZ]; rw [ih]; rfl
theorem sumZ_le {u v : Nat → Int} : ∀ {n : Nat}, (∀ i, i < n → u i ≤ v i) → sumZ u n ≤ sumZ v n := by
  intro n
  induction n with
  | zero => intro _; simp [sumZ]
  | succ n ih => intro h; simp only [sumZ]; have := ih (fun i hi => h i (by omega)); have := h n (by omega); omega
theorem sumZ_one {u : Nat → Int} {n k : Nat} (hk : k < n) (h : ∀ i, i < n → i ≠ k → u i = 0) : sumZ u n = u k := by
  have := sumZ_upd (u := fun _ => 0) (v := u) hk h
  rw [sumZ_zero (u := fun _ => (0 : Int)) (fun _ _ => rfl)] at this
  omega
theorem sumZ_mono {u : Nat → Int} {k n : Nat} (h : ∀ i, i < n → 0 ≤ u i) (hk : k ≤ n) : sumZ u k ≤ sumZ u n := by
  induction n with
  | zero => rw [show k = 0 by omega]; exact Int.le_refl _
  | succ n ih =>
    by_cases q : k = n + 1
    · rw [q]; exact Int.le_refl _
    · have := ih (fun i hi => h i (by omega)) (by omega)
      simp only [sumZ]
      have := h n (by omega)
      omega
/-- how many rows of j beats lead from a stand to where it is so -/
def cW (a : Nat → Int) (f : Nat → (Nat → Int) → Int) (w : Int) : Nat → Int → Int
  | 0, st => if soB a w st = true then 1 else 0
  | j + 1, st => if ovT a st then 0 else sumZ (fun e => cW a f w j (Tr a f st (e : Int))) (a 4 + 1).toNat
/-- of the listed stands the numbers of cell c, each so often -/
def lS (h : am_H) (c : Nat) (u : Int → Int) : Int := sumZ (fun j => h.2.2.2 c (h.2.2.2 119 j).toNat * u (h.2.2.2 119 j)) (h.2.2.2 109 29).toNat
theorem lS_1 {h : am_H} {c : Nat} : lS h c (fun _ => 1) = sumZ (fun j => h.2.2.2 c (h.2.2.2 119 j).toNat * 1) (h.2.2.2 109 29).toNat := rfl
section RW
variable {h g : am_H} {a : Nat → Int} {f : Nat → (Nat → Int) → Int} {B w : Int}
theorem lS_put (r : rok a f B) (x : msP h a f) {c : Nat} {u : Int → Int} {s v : Int} (hc : c ≠ 119 ∧ c ≠ 109) (hr : Rch a f s) (e : g = am_put h c s.toNat v) : lS g c u = lS h c u + (v - h.2.2.2 c s.toNat) * u s := by
  obtain ⟨j0, j1, j2⟩ := x.2.2.1 s hr
  have c119 : g.2.2.2 119 = h.2.2.2 119 := by rw [e]; exact put_c (by omega)
  have c109 : g.2.2.2 109 = h.2.2.2 109 := by rw [e]; exact put_c (by omega)
  have cc : ∀ j, g.2.2.2 c j = if j = s.toNat then v else h.2.2.2 c j := by intro j; rw [e]; simp only [put_at, true_and]
  unfold lS
  rw [c119, c109]
  have := sumZ_upd (u := fun j => h.2.2.2 c (h.2.2.2 119 j).toNat * u (h.2.2.2 119 j)) (v := fun j => g.2.2.2 c (h.2.2.2 119 j).toNat * u (h.2.2.2 119 j)) (n := (h.2.2.2 109 29).toNat) (k := j0) (by omega) (fun i hi hne => by
    show g.2.2.2 c (h.2.2.2 119 i).toNat * u (h.2.2.2 119 i) = _
    rw [cc, if_neg]
    intro q
    have r1 := ((x.2.1 i (by omega)).ok r).1
    have r2 := (hr.ok r).1
    have es : h.2.2.2 119 i = h.2.2.2 119 j0 := by rw [j2]; omega
    rcases Nat.lt_or_ge i j0 with q2 | q2
    · exact x.2.2.2.1 i j0 q2 j1 es
    · exact x.2.2.2.1 j0 i (by omega) (by omega) es.symm)
  rw [this]
  simp only [j2]
  rw [cc, if_pos rfl, ← Int.sub_mul]
end RW
section RM
variable {scr : Nat × (Nat → Int)} {d : Nat} {h : am_H} {Q : Option am_V → am_H → Prop} {a : Nat → Int} {f : Nat → (Nat → Int) → Int} {B w : Int}
theorem k_beginsMany (hs : am_sc scr) (hw : wf h) (ha : h.2.2.2 110 = a) (r : rok a f B) (H : ∀ g, wf g → fr [124, 125] [] h g → (∀ j : Nat, j < 360 → g.2.2.2 124 j = (if (j : Int) = stA a then 1 else 0) ∧ g.2.2.2 125 j = 0) → Q none g) : am_R (am_prog scr) (d + 2) f_M_beginsMany 0 [some (.inr (.inr ((109 : Nat) : Int))), none] [] h Q := by
  refine w_M_beginsMany_0 hs hw ?_
  refine down (n := 360) (I := fun i g => wf g ∧ fr [124, 125] [] h g ∧ ∀ j : Nat, j < i → g.2.2.2 124 j = (if (j : Int) = stA a then 1 else 0) ∧ g.2.2.2 125 j = 0) (R := fun i g => am_R (am_prog scr) (d + 2) f_M_beginsMany 2 [some (.inr (.inr ((109 : Nat) : Int))), some (.inl ((i : Int)))] [] g Q) ?_ ?_ 360 0 h rfl ⟨hw, fr.rfl, fun j hj => by omega⟩
  · intro g ⟨w1, f1, p⟩
    exact w_M_beginsMany_2 hs w1 ⟨fun _ => H g w1 f1 p, fun c => by omega⟩
  · intro i g hi ⟨w1, f1, p⟩ k
    have ag : g.2.2.2 110 = a := (f1.c 110 (by decide) (by simp)).trans ha
    refine w_M_beginsMany_2 hs w1 ⟨fun c => by omega, fun _ => ?_⟩
    have nx : ∀ (v : Int) (h4 h6 : am_H), v = (if (i : Int) = stA a then 1 else 0) → h4 = am_put g 124 (i : Int).toNat v → h6 = am_put h4 125 (i : Int).toNat 0 → ∀ y, y = am_w ((i : Int) + 1) → am_R (am_prog scr) (d + 2) f_M_beginsMany 2 [some (.inr (.inr ((109 : Nat) : Int))), some (.inl (y))] [] h6 Q := by
      intro v h4 h6 hv e4 e6 y hy
      rw [am_w_id (by omega) (by omega)] at hy
      subst hy
      rw [Int.toNat_natCast] at e4 e6
      refine k h6 ⟨by rw [e6, e4]; exact (w1.pa (by decide +kernel)).pa (by decide +kernel), f1.trans (by rw [e6, e4]; exact (fr.rfl.put (Or.inl (by decide))).put (Or.inl (by decide))), fun j hj => ?_⟩
      rw [e6, e4]
      simp only [put_at, true_and]
      rw [if_neg (show ¬ ((124 : Nat) = 125 ∧ j = i) by omega), if_neg (show ¬ ((125 : Nat) = 124 ∧ j = i) by omega)]
      by_cases q : j = i
      · rw [if_pos q, if_pos q, hv, q]; exact ⟨rfl, rfl⟩
      · rw [if_neg q, if_neg q]; exact p j (by omega)
    refine k_standNowA hs w1 ag r ⟨_, rfl, w1, fun c => ⟨by omega, fun h4 e4 => ⟨by omega, fun h6 e6 y hy => ?_⟩⟩, fun c => ⟨by omega, fun h4 e4 => ⟨by omega, fun h6 e6 y hy => ?_⟩⟩⟩
    · exact nx _ h4 h6 (by rw [if_neg c]) e4 e6 y hy
    · exact nx _ h4 h6 (by rw [if_pos c]) e4 e6 y hy
theorem k_isThen (hs : am_sc scr) (hw : wf h) (H : ∀ g, wf g → fr [124, 125] [] h g → (∀ j : Nat, j < 360 → g.2.2.2 124 j = h.2.2.2 125 j ∧ g.2.2.2 125 j = 0) → Q none g) : am_R (am_prog scr) d f_M_isThen 0 [some (.inr (.inr ((109 : Nat) : Int))), none] [] h Q := by
  refine w_M_isThen_0 hs hw ?_
  refine down (n := 360) (I := fun i g => wf g ∧ fr [124, 125] [] h g ∧ (∀ j : Nat, j < i → g.2.2.2 124 j = h.2.2.2 125 j ∧ g.2.2.2 125 j = 0) ∧ ∀ j : Nat, i ≤ j → g.2.2.2 125 j = h.2.2.2 125 j) (R := fun i g => am_R (am_prog scr) d f_M_isThen 2 [some (.inr (.inr ((109 : Nat) : Int))), some (.inl ((i : Int)))] [] g Q) ?_ ?_ 360 0 h rfl ⟨hw, fr.rfl, fun j hj => by omega, fun _ _ => rfl⟩
  · intro g ⟨w1, f1, p, _⟩
    exact w_M_isThen_2 hs w1 ⟨fun _ => H g w1 f1 p, fun c => by omega⟩
  · intro i g hi ⟨w1, f1, p, p2⟩ k
    refine w_M_isThen_2 hs w1 ⟨fun c => by omega, fun _ => ⟨by omega, by omega, fun h3 e3 => ⟨by omega, fun h5 e5 y hy => ?_⟩⟩⟩
    rw [am_w_id (by omega) (by omega)] at hy
    subst hy
    rw [Int.toNat_natCast] at e3 e5
    refine k h5 ⟨by rw [e5, e3]; exact (w1.pa (by decide +kernel)).pa (by decide +kernel), f1.trans (by rw [e5, e3]; exact (fr.rfl.put (Or.inl (by decide))).put (Or.inl (by decide))), fun j hj => ?_, fun j hj => ?_⟩
    · rw [e5, e3]
      simp only [put_at, true_and]
      rw [if_neg (show ¬ ((124 : Nat) = 125 ∧ j = i) by omega), if_neg (show ¬ ((125 : Nat) = 124 ∧ j = i) by omega)]
      by_cases q : j = i
      · rw [if_pos q, if_pos q, q, p2 i (by omega)]; exact ⟨rfl, rfl⟩
      · rw [if_neg q, if_neg q]; exact p j (by omega)
    · rw [e5, put_ne (by omega), e3, put_ne (by omega)]; exact p2 j (by omega)
/-- the heap in a beat: it is b but for cell 125, whose numbers are 0 or more, U in all, and V by weight -/
def rwI (b g : am_H) (a : Nat → Int) (f : Nat → (Nat → Int) → Int) (u : Int → Int) (U V : Int) : Prop := wf g ∧ msP g a f ∧ fr [125] [] b g ∧ (∀ s, Rch a f s → 0 ≤ g.2.2.2 125 s.toNat) ∧ lS g 125 (fun _ => 1) ≤ U ∧ lS g 125 u = V
theorem rwI.add {b g g2 : am_H} {u : Int → Int} {U V x s : Int} (r : rok a f B) (y : rwI b g a f u U V) (hr : Rch a f s) (hx : 0 ≤ x) (e : g2 = am_put g 125 s.toNat (g.2.2.2 125 s.toNat + x)) : rwI b g2 a f u (U + x) (V + x * u s) := by
  obtain ⟨y1, y2, y3, y4, y5, y6⟩ := y
  have f2 : fr [125] [] g g2 := by rw [e]; exact fr.rfl.put (Or.inl (by decide))
  have p1 := lS_put (u := fun _ => 1) r y2 (by omega) hr e
  have p2 := lS_put (u := u) r y2 (by omega) hr e
  refine ⟨by rw [e]; exact y1.pa (by decide +kernel), y2.fr (by rw [f2.c 109 (by decide) (by simp)]) (f2.c 119 (by decide) (by simp)) (f2.c 120 (by decide) (by simp)), y3.trans f2, fun s2 h2 => ?_, ?_, ?_⟩
  · rw [e]
    simp only [put_at, true_and]
    split
    · have := y4 s hr; omega
    · exact y4 s2 h2
  · rw [p1, show g.2.2.2 125 s.toNat + x - g.2.2.2 125 s.toNat = x by omega, Int.mul_one]
    omega
  · rw [p2, show g.2.2.2 125 s.toNat + x - g.2.2.2 125 s.toNat = x by omega, y6]
theorem rwI.el {b g : am_H} {u : Int → Int} {U V s : Int} (y : rwI b g a f u U V) (hr : Rch a f s) : 0 ≤ g.2.2.2 125 s.toNat ∧ g.2.2.2 125 s.toNat ≤ U := by
  obtain ⟨y1, y2, y3, y4, y5, y6⟩ := y
  refine ⟨y4 s hr, ?_⟩
  obtain ⟨j, j1, j2⟩ := y2.2.2.1 s hr
  have := sumZ_el (u := fun j => g.2.2.2 125 (g.2.2.2 119 j).toNat * 1) (n := (g.2.2.2 109 29).toNat) (k := j) (fun i hi => by
    show 0 ≤ g.2.2.2 125 (g.2.2.2 119 i).toNat * 1
    have := y4 _ (y2.2.1 i (by omega)); omega) (by omega)
  simp only [j2] at this
  rw [lS_1] at y5
  omega
/-- the first e deeds of a stand -/
def pSm (a : Nat → Int) (f : Nat → (Nat → Int) → Int) (u : Int → Int) (st : Int) (e : Nat) : Int := if ovT a st then 0 else sumZ (fun e' => u (Tr a f st (e' : Int))) (min e (a 4 + 1).toNat)
theorem pSm_succ (r : rok a f B) {u : Int → Int} {st : Int} (hr : Rch a f st) {e : Nat} : (thV a f st e = -1 ∧ pSm a f u st (e + 1) = pSm a f u st e) ∨ (thV a f st e ≠ -1 ∧ Rch a f (thV a f st e) ∧ (0 ≤ thV a f st e ∧ thV a f st e < 360) ∧ pSm a f u st (e + 1) = pSm a f u st e + u (thV a f st e)) := by
  have h4 := r.1.1
  unfold pSm
  rcases thV_r r hr e with q | ⟨q1, q2, q3, q4, q5⟩
  · refine Or.inl ⟨q, ?_⟩
    by_cases o : ovT a st
    · rw [if_pos o, if_pos o]
    · rw [if_neg o, if_neg o]
      have big : ¬ (e : Int) ≤ a 4 := by
        intro c2
        unfold thV at q
        rw [if_pos ⟨o, c2⟩] at q
        have := (Tr_ok r (deed := (e : Int)) (hr.ok r) o).1
        omega
      rw [show min (e + 1) (a 4 + 1).toNat = min e (a 4 + 1).toNat by omega]
  · refine Or.inr ⟨by omega, q1, q2, ?_⟩
    rw [if_neg q3, if_neg q3, q5, show min (e + 1) (a 4 + 1).toNat = e + 1 by omega, show min e (a 4 + 1).toNat = e by omega]
    rfl
theorem k_rows_76 {b : am_H} {x1 x2 x3 st M U V : Int} {k : Nat} {u : Int → Int} (hs : am_sc scr) (r : rok a f B) (hr : Rch a f st) (hk : k < 400) (hM : b.2.2.2 124 st.toNat = M) (hM0 : 0 ≤ M) (hU : 0 ≤ U ∧ U + 7 * M < 1000000000000) (K : ∀ g, rwI b g a f u (U + 7 * M) (V + M * pSm a f u st 7) → am_R (am_prog scr) (d + 1) f_M_rows 55 [some (.inr (.inr ((109 : Nat) : Int))), some (.inl (x1)), some (.inl (x2)), some (.inl (x3)), some (.inl (((k + 1 : Nat) : Int))), none, none] [] g Q) : ∀ (m e : Nat) (g : am_H), e + m = 7 → rwI b g a f u (U + e * M) (V + M * pSm a f u st e) → am_R (am_prog scr) (d + 1) f_M_rows 76 [some (.inr (.inr ((109 : Nat) : Int))), some (.inl (x1)), some (.inl (x2)), some (.inl (x3)), some (.inl ((k : Int))), some (.inl (st)), some (.inl ((e : Int)))] [] g Q := by
  have so := (hr.ok r).1
  intro m
  induction m with
  | zero =>
    intro e g he y
    rw [show e = 7 by omega] at y ⊢
    refine w_M_rows_76 hs y.1 ⟨fun _ q hq => ?_, fun c => by omega⟩
    rw [am_w_id (by omega) (by omega)] at hq
    obtain rfl : q = ((k + 1 : Nat) : Int) := by omega
    exact K g y
  | succ m ih =>
    intro e g he y
    have eM : g.2.2.2 124 st.toNat = M := by rw [y.2.2.1.c 124 (by decide) (by simp)]; exact hM
    have e7 : am_w (am_w (7 * st) + (e : Int)) = 7 * st + (e : Int) := by simp (disch := omega) only [am_w_id, am_W_id]
    have em : (e : Int) * M ≤ 7 * M := Int.mul_le_mul_of_nonneg_right (by omega) hM0
    have em0 : 0 ≤ (e : Int) * M := Int.mul_nonneg (by omega) hM0
    refine w_M_rows_76 hs y.1 ⟨fun c => by omega, fun _ => ⟨so, ?_⟩⟩
    rw [eM]
    refine ⟨fun c q hq => ?_, fun c => ?_⟩
    · have z : M = 0 := by omega
      rw [am_w_id (by omega) (by omega)] at hq
      obtain rfl : q = ((k + 1 : Nat) : Int) := by omega
      refine K g ?_
      obtain ⟨y1, y2, y3, y4, y5, y6⟩ := y
      rw [z] at y5 y6 ⊢
      exact ⟨y1, y2, y3, y4, by omega, by rw [y6]; simp⟩
    · rw [e7, y.2.1.2.2.2.2 st hr e (by omega)]
      refine ⟨by omega, fun c2 q hq => ?_, fun c2 => ?_⟩
      · rcases pSm_succ r (u := u) hr (e := e) with ⟨z1, z2⟩ | ⟨z1, _⟩
        · rw [am_w_id (by omega) (by omega)] at hq
          obtain rfl : q = ((e + 1 : Nat) : Int) := by omega
          refine ih (e + 1) g (by omega) ?_
          obtain ⟨y1, y2, y3, y4, y5, y6⟩ := y
          refine ⟨y1, y2, y3, y4, ?_, by rw [y6, z2]⟩
          rw [show ((e + 1 : Nat) : Int) * M = (e : Int) * M + M by rw [Int.natCast_add, Int.add_mul]; simp]
          omega
        · exact absurd c2 z1
      · rcases pSm_succ r (u := u) hr (e := e) with ⟨z1, _⟩ | ⟨z1, z2, z3, z4⟩
        · exact absurd z1 c2
        · have el := y.el z2
          refine ⟨by omega, z3, so, z3, fun h10 e10 q hq => ?_⟩
          rw [am_W_id (by omega) (by omega)] at e10
          rw [am_w_id (by omega) (by omega)] at hq
          obtain rfl : q = ((e + 1 : Nat) : Int) := by omega
          have y2 := y.add r z2 hM0 e10
          refine ih (e + 1) h10 (by omega) ?_
          obtain ⟨y1, y2, y3, y4, y5, y6⟩ := y2
          refine ⟨y1, y2, y3, y4, ?_, ?_⟩
          · rw [show ((e + 1 : Nat) : Int) * M = (e : Int) * M + M by rw [Int.natCast_add, Int.add_mul]; simp]
            omega
          · rw [y6, z4, Int.mul_add]
            omega
theorem k_rows_55 {b : am_H} {x1 x2 x3 : Int} {u : Int → Int} (hs : am_sc scr) (r : rok a f B) (hn : ∀ s, Rch a f s → 0 ≤ b.2.2.2 124 s.toNat) (hT : lS b 124 (fun _ => 1) ≤ 300000000) (K : ∀ g, rwI b g a f u (7 * lS b 124 (fun _ => 1)) (lS b 124 (fun s => pSm a f u s 7)) → am_R (am_prog scr) d f_M_isThen 0 [some (.inr (.inr ((109 : Nat) : Int))), none] [] g (fun v g1 => v = none ∧ wf g1 ∧ (∀ y2 : Int, y2 = am_w (x3 + 1) → (am_R (am_prog scr) (d + 1) f_M_rows 47 [some (.inr (.inr ((109 : Nat) : Int))), some (.inl (x1)), some (.inl (x2)), some (.inl (y2)), none, none, none] [] g1 Q)))) : ∀ (m k : Nat) (g : am_H), (k : Int) + m = b.2.2.2 109 29 → rwI b g a f u (7 * sumZ (fun j => b.2.2.2 124 (b.2.2.2 119 j).toNat * 1) k) (sumZ (fun j => b.2.2.2 124 (b.2.2.2 119 j).toNat * pSm a f u (b.2.2.2 119 j) 7) k) → am_R (am_prog scr) (d + 1) f_M_rows 55 [some (.inr (.inr ((109 : Nat) : Int))), some (.inl (x1)), some (.inl (x2)), some (.inl (x3)), some (.inl ((k : Int))), none, none] [] g Q := by
  intro m
  induction m with
  | zero =>
    intro k g hk y
    have c109 : g.2.2.2 109 = b.2.2.2 109 := y.2.2.1.c 109 (by decide) (by simp)
    refine w_M_rows_55 hs y.1 ?_
    rw [c109]
    refine ⟨fun _ => K g ?_, fun c => by omega⟩
    unfold lS
    rw [show (b.2.2.2 109 29).toNat = k by omega]
    exact y
  | succ m ih =>
    intro k g hk y
    have c109 : g.2.2.2 109 = b.2.2.2 109 := y.2.2.1.c 109 (by decide) (by simp)
    have c119 : g.2.2.2 119 = b.2.2.2 119 := y.2.2.1.c 119 (by decide) (by simp)
    have c29 := y.2.1.1
    rw [c109] at c29
    have hr : Rch a f (b.2.2.2 119 k) := by
      have := y.2.1.2.1 k (by rw [c109]; omega)
      rw [c119] at this
      exact this
    have rr : ∀ j : Nat, (j : Int) < b.2.2.2 109 29 → Rch a f (b.2.2.2 119 j) := fun j hj => by
      have := y.2.1.2.1 j (by rw [c109]; omega)
      rw [c119] at this
      exact this
    refine w_M_rows_55 hs y.1 ?_
    rw [c109, c119, Int.toNat_natCast]
    refine ⟨fun c => by omega, fun _ => ⟨by omega, fun y4 h4 => ?_⟩⟩
    subst h4
    have M0 := hn _ hr
    have nn : ∀ i, i < (b.2.2.2 109 29).toNat → 0 ≤ (fun j => b.2.2.2 124 (b.2.2.2 119 j).toNat * 1) i := fun i hi => by
      show 0 ≤ b.2.2.2 124 (b.2.2.2 119 i).toNat * 1
      have := hn _ (rr i (by omega)); omega
    have s1 := sumZ_mono (k := k + 1) nn (by omega)
    have s0 := sumZ_nn (n := k) (fun i hi => nn i (by omega))
    rw [lS_1] at hT
    simp only [sumZ] at s1
    refine k_rows_76 (b := b) (u := u) (U := 7 * sumZ (fun j => b.2.2.2 124 (b.2.2.2 119 j).toNat * 1) k) (V := sumZ (fun j => b.2.2.2 124 (b.2.2.2 119 j).toNat * pSm a f u (b.2.2.2 119 j) 7) k) hs r hr (by omega) rfl M0 (by omega) (fun g2 y2 => ?_) 7 0 g rfl ?_
    · refine ih (k + 1) g2 (by omega) ?_
      simp only [sumZ]
      obtain ⟨z1, z2, z3, z4, z5, z6⟩ := y2
      exact ⟨z1, z2, z3, z4, by omega, z6⟩
    · obtain ⟨z1, z2, z3, z4, z5, z6⟩ := y
      have p0 : pSm a f u (b.2.2.2 119 k) 0 = 0 := by
        unfold pSm
        split
        · rfl
        · rw [show min 0 (a 4 + 1).toNat = 0 by omega]; rfl
      refine ⟨z1, z2, z3, z4, by rw [show ((0 : Nat) : Int) = 0 from rfl, Int.zero_mul, Int.add_zero]; exact z5, by rw [z6, p0]; simp⟩
theorem pw7 (i : Nat) (hi : i ≤ 10) : (1 : Int) ≤ (7 : Int) ^ i ∧ (7 : Int) ^ i ≤ 282475249 := by
  have : ∀ i : Nat, i < 11 → (1 : Int) ≤ (7 : Int) ^ i ∧ (7 : Int) ^ i ≤ 282475249 := by decide +kernel
  exact this i (by omega)
theorem k_Mrows {n : Int} (hs : am_sc scr) (hw : wf h) (ha : h.2.2.2 110 = a) (r : rok a f B) (H : ∀ g, wf g → fr [114, 115, 119, 120, 123, 124, 125] [(109, 0), (109, 29)] h g → Q (some (.inr (.inl (if 0 ≤ w ∧ w ≤ 2 then (if 0 ≤ n ∧ n ≤ 10 then cW a f w n.toNat (stA a) else -3) else -2)))) g) : am_R (am_prog scr) (d + 6) f_M_rows 0 [some (.inr (.inr ((109 : Nat) : Int))), some (.inl (w)), some (.inl (n)), none, none, none, none] [] h Q := by
  refine w_M_rows_0 hs hw (fun g1 q1 => ?_)
  have w1 : wf g1 := by rw [q1]; exact (put0 hw).1
  have f0 : fr [] [(109, 0)] h g1 := by rw [q1]; exact (put0 hw).2
  have a1 : g1.2.2.2 110 = a := (f0.c 110 (by simp) (by decide)).trans ha
  have f1 : fr [114, 115, 119, 120, 123, 124, 125] [(109, 0), (109, 29)] h g1 := f0.mono (by simp) (by decide)
  refine k_within hs w1 ⟨_, rfl, w1, fun c => ?_, fun c => ?_⟩
  · rw [i0, Decidable.not_not] at c
    rw [if_pos c] at H
    refine k_within hs w1 ⟨_, rfl, w1, fun c2 => ?_, fun c2 => ?_⟩
    · rw [i0, Decidable.not_not] at c2
      rw [if_pos c2] at H
      refine k_laysStands hs w1 a1 r (fun g2 w2 f2 x2 => ⟨rfl, w2, ?_⟩)
      have a2 : g2.2.2.2 110 = a := (f2.c 110 (by decide) (by decide)).trans a1
      refine k_beginsMany hs w2 a2 r (fun g3 w3 f3 e3 => ⟨rfl, w3, ?_⟩)
      have ff3 : fr [114, 115, 119, 120, 123, 124, 125] [(109, 0), (109, 29)] h g3 := (f1.trans (f2.mono (by decide) (by decide))).trans (f3.mono (by decide) (by simp))
      have x3 : msP g3 a f := x2.fr (by rw [f3.c 109 (by decide) (by simp)]) (f3.c 119 (by decide) (by simp)) (f3.c 120 (by decide) (by simp))
      obtain ⟨nn, hnn⟩ : ∃ nn : Nat, n = nn := ⟨n.toNat, by omega⟩
      subst hnn
      rw [Int.toNat_natCast] at H
      -- the last sum
      have last : ∀ (g : am_H), wf g → msP g a f → g.2.2.2 110 = a → fr [114, 115, 119, 120, 123, 124, 125] [(109, 0), (109, 29)] h g → (∀ s, Rch a f s → 0 ≤ g.2.2.2 124 s.toNat) → lS g 124 (fun _ => 1) ≤ 300000000 → lS g 124 (cW a f w 0) = cW a f w nn (stA a) → am_R (am_prog scr) (d + 6) f_M_rows 167 [some (.inr (.inr ((109 : Nat) : Int))), some (.inl (w)), some (.inl ((nn : Int))), some (.inr (.inl (0))), none, some (.inl (0)), none] [] g Q := by
        intro g wg xg ag fg nng tg vg
        have c29 := xg.1
        have lp : ∀ (m k : Nat), (k : Int) + m = g.2.2.2 109 29 → am_R (am_prog scr) (d + 6) f_M_rows 167 [some (.inr (.inr ((109 : Nat) : Int))), some (.inl (w)), some (.inl ((nn : Int))), some (.inr (.inl (sumZ (fun j => g.2.2.2 124 (g.2.2.2 119 j).toNat * cW a f w 0 (g.2.2.2 119 j)) k))), none, some (.inl ((k : Int))), none] [] g Q := by
          intro m
          induction m with
          | zero =>
            intro k hk
            refine w_M_rows_167 hs wg ⟨fun _ => ?_, fun c => by omega⟩
            have HH := H g wg fg
            rw [← vg] at HH
            unfold lS at HH
            rw [show (g.2.2.2 109 29).toNat = k by omega] at HH
            exact HH
          | succ m ih =>
            intro k hk
            have hr := xg.2.1 k (by omega)
            have so := (hr.ok r).1
            have bnd : ∀ k, k ≤ (g.2.2.2 109 29).toNat → 0 ≤ sumZ (fun j => g.2.2.2 124 (g.2.2.2 119 j).toNat * cW a f w 0 (g.2.2.2 119 j)) k ∧ sumZ (fun j => g.2.2.2 124 (g.2.2.2 119 j).toNat * cW a f w 0 (g.2.2.2 119 j)) k ≤ 300000000 := by
              intro k hk
              have c01 : ∀ s, cW a f w 0 s = 0 ∨ cW a f w 0 s = 1 := by intro s; simp only [cW]; split <;> simp
              have e1 : ∀ i, i < (g.2.2.2 109 29).toNat → 0 ≤ g.2.2.2 124 (g.2.2.2 119 i).toNat := fun i hi => nng _ (xg.2.1 i (by omega))
              have n1 := sumZ_nn (u := fun j => g.2.2.2 124 (g.2.2.2 119 j).toNat * cW a f w 0 (g.2.2.2 119 j)) (n := k) (fun i hi => by
                have := e1 i (by omega)
                show 0 ≤ g.2.2.2 124 (g.2.2.2 119 i).toNat * cW a f w 0 (g.2.2.2 119 i)
                rcases c01 (g.2.2.2 119 i) with q | q <;> rw [q] <;> omega)
              have n2 := sumZ_le (u := fun j => g.2.2.2 124 (g.2.2.2 119 j).toNat * cW a f w 0 (g.2.2.2 119 j)) (v := fun j => g.2.2.2 124 (g.2.2.2 119 j).toNat * 1) (n := k) (fun i hi => by
                have := e1 i (by omega)
                show g.2.2.2 124 (g.2.2.2 119 i).toNat * cW a f w 0 (g.2.2.2 119 i) ≤ g.2.2.2 124 (g.2.2.2 119 i).toNat * 1
                rcases c01 (g.2.2.2 119 i) with q | q <;> rw [q] <;> omega)
              have n3 := sumZ_mono (u := fun j => g.2.2.2 124 (g.2.2.2 119 j).toNat * 1) (k := k) (n := (g.2.2.2 109 29).toNat) (fun i hi => by
                have := e1 i hi
                show 0 ≤ g.2.2.2 124 (g.2.2.2 119 i).toNat * 1
                omega) hk
              rw [lS_1] at tg
              omega
            have b0 := bnd k (by omega)
            have b1 := bnd (k + 1) (by omega)
            simp only [sumZ] at b1
            have eq : ∀ z : Int, z = (if soB a w (g.2.2.2 119 k) = true then 1 else 0) → g.2.2.2 124 (g.2.2.2 119 k).toNat * cW a f w 0 (g.2.2.2 119 k) = g.2.2.2 124 (g.2.2.2 119 k).toNat * z := by
              intro z hz; simp only [cW]; rw [hz]
            have nxt : ∀ v, v = sumZ (fun j => g.2.2.2 124 (g.2.2.2 119 j).toNat * cW a f w 0 (g.2.2.2 119 j)) (k + 1) → ∀ y, y = am_w ((k : Int) + 1) → am_R (am_prog scr) (d + 6) f_M_rows 167 [some (.inr (.inr ((109 : Nat) : Int))), some (.inl (w)), some (.inl ((nn : Int))), some (.inr (.inl (v))), none, some (.inl (y)), none] [] g Q := by
              intro v hv y hy
              rw [am_w_id (by omega) (by omega)] at hy
              obtain rfl : y = ((k + 1 : Nat) : Int) := by omega
              rw [hv]
              exact ih (k + 1) (by omega)
            refine w_M_rows_167 hs wg ⟨fun c => by omega, fun _ => ⟨by omega, ?_⟩⟩
            rw [Int.toNat_natCast]
            refine k_isSo hs wg ag so ⟨_, rfl, wg, fun c3 y4 h4 y5 h5 => ?_, fun c3 => ⟨by omega, so, fun y8 h8 y9 h9 => ?_⟩⟩
            · rw [i0] at c3
              rw [am_W_id (by omega) (by omega)] at h4
              refine nxt y4 ?_ y5 h5
              simp only [sumZ]
              rw [eq 0 (by rw [if_neg c3])]
              omega
            · rw [i0, Decidable.not_not] at c3
              have e2 := eq 1 (by rw [if_pos c3])
              rw [am_W_id (by omega) (by omega)] at h8
              refine nxt y8 ?_ y9 h9
              simp only [sumZ]
              omega
        exact lp (g.2.2.2 109 29).toNat 0 (by omega)
      have lp : ∀ (m i : Nat) (g : am_H), i + m = nn → wf g → msP g a f → g.2.2.2 110 = a → fr [114, 115, 119, 120, 123, 124, 125] [(109, 0), (109, 29)] h g → (∀ s, Rch a f s → 0 ≤ g.2.2.2 124 s.toNat ∧ g.2.2.2 125 s.toNat = 0) → lS g 124 (fun _ => 1) ≤ (7 : Int) ^ i → lS g 124 (cW a f w m) = cW a f w nn (stA a) → am_R (am_prog scr) (d + 6) f_M_rows 47 [some (.inr (.inr ((109 : Nat) : Int))), some (.inl (w)), some (.inl ((nn : Int))), some (.inl ((i : Int))), none, none, none] [] g Q := by
        intro m
        induction m with
        | zero =>
          intro i g hi wg xg ag fg nng tg vg
          have := pw7 i (by omega)
          refine w_M_rows_47 hs wg ⟨fun _ => last g wg xg ag fg (fun s hr => (nng s hr).1) (by omega) vg, fun c => by omega⟩
        | succ m ih =>
          intro i g hi wg xg ag fg nng tg vg
          have p7 := pw7 i (by omega)
          have c29 := xg.1
          refine w_M_rows_47 hs wg ⟨fun c => by omega, fun _ => ?_⟩
          refine k_rows_55 (b := g) (u := cW a f w m) hs r (fun s hr => (nng s hr).1) (by omega) (fun g2 y2 => ?_) (g.2.2.2 109 29).toNat 0 g (by omega) ⟨wg, xg, fr.rfl, fun s hr => by rw [(nng s hr).2]; omega, ?_, ?_⟩
          · obtain ⟨z1, z2, z3, z4, z5, z6⟩ := y2
            refine k_isThen hs z1 (fun g3 w3 f3 e3 => ⟨rfl, w3, fun y hy => ?_⟩)
            rw [am_w_id (by omega) (by omega)] at hy
            obtain rfl : y = ((i + 1 : Nat) : Int) := by omega
            have c119 : g3.2.2.2 119 = g2.2.2.2 119 := f3.c 119 (by decide) (by simp)
            have c109 : g3.2.2.2 109 = g2.2.2.2 109 := f3.c 109 (by decide) (by simp)
            have xx : msP g3 a f := z2.fr (by rw [c109]) c119 (f3.c 120 (by decide) (by simp))
            have tr : ∀ u, lS g3 124 u = lS g2 125 u := by
              intro u
              unfold lS
              rw [c119, c109]
              refine sumZ_congr (fun j hj => ?_)
              have so := ((z2.2.1 j (by omega)).ok r).1
              show g3.2.2.2 124 (g2.2.2.2 119 j).toNat * _ = _
              rw [(e3 _ (by omega)).1]
            refine ih (i + 1) g3 (by omega) w3 xx ((f3.c 110 (by decide) (by simp)).trans ((z3.c 110 (by decide) (by simp)).trans ag)) ((fg.trans (z3.mono (by decide) (by simp))).trans (f3.mono (by decide) (by simp))) (fun s hr => ?_) ?_ ?_
            · have so := (hr.ok r).1
              have := e3 s.toNat (by omega)
              rw [this.1, this.2]
              exact ⟨z4 s hr, rfl⟩
            · rw [tr, Int.pow_succ]
              omega
            · rw [tr, z6, ← vg]
              unfold lS
              refine sumZ_congr (fun j hj => ?_)
              show g.2.2.2 124 (g.2.2.2 119 j).toNat * pSm a f (cW a f w m) (g.2.2.2 119 j) 7 = g.2.2.2 124 (g.2.2.2 119 j).toNat * cW a f w (m + 1) (g.2.2.2 119 j)
              have h4 := r.1.1
              unfold pSm
              simp only [cW]
              rw [show min 7 (a 4 + 1).toNat = (a 4 + 1).toNat by omega]
          · have : lS g 125 (fun _ => 1) = 0 := by
              unfold lS
              refine sumZ_zero (fun j hj => ?_)
              rw [(nng _ (xg.2.1 j (by omega))).2]; simp
            rw [this]; simp [sumZ]
          · unfold lS
            simp only [sumZ]
            refine sumZ_zero (fun j hj => ?_)
            rw [(nng _ (xg.2.1 j (by omega))).2]; simp
      have one : ∀ u : Int → Int, lS g3 124 u = u (stA a) := by
        intro u
        obtain ⟨j0, j1, j2⟩ := x3.2.2.1 _ Rch.zero
        unfold lS
        have st := r.st.1
        rw [sumZ_one (k := j0) (by omega) (fun i hi hne => ?_)]
        · show g3.2.2.2 124 (g3.2.2.2 119 j0).toNat * u (g3.2.2.2 119 j0) = u (stA a)
          rw [j2, (e3 _ (by omega)).1, if_pos (by omega)]
          omega
        · show g3.2.2.2 124 (g3.2.2.2 119 i).toNat * u (g3.2.2.2 119 i) = 0
          have so := ((x3.2.1 i (by omega)).ok r).1
          rw [(e3 _ (by omega)).1, if_neg]
          · simp
          · intro q
            have es : g3.2.2.2 119 i = g3.2.2.2 119 j0 := by rw [j2]; omega
            rcases Nat.lt_or_ge i j0 with q2 | q2
            · exact x3.2.2.2.1 i j0 q2 j1 es
            · exact x3.2.2.2.1 j0 i (by omega) (by omega) es.symm
      have := lp nn 0 g3 (by omega) w3 x3 ((f3.c 110 (by decide) (by simp)).trans a2) ff3 (fun s hr => ?_) (by rw [one]; simp) (one _)
      · exact this
      · have so := (hr.ok r).1
        have := e3 s.toNat (by omega)
        rw [this.1, this.2]
        split <;> simp
    · rw [i0] at c2
      rw [if_neg c2] at H
      exact H g1 w1 f1
  · rw [i0] at c
    rw [if_neg c] at H
    exact H g1 w1 f1
end RM
