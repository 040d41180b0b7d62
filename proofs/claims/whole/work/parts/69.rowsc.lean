/-! rows counted: the class -/
def tlI (h : am_H) : Prop := (h.2.2.2 43 1 = 44 ∧ h.2.2.2 43 2 = 45) ∨ (h.2.2.2 43 1 = 45 ∧ h.2.2.2 43 2 = 44)
def nS (h : am_H) (c : Nat) (u : Nat → Int) : Int := sumZ (fun n => h.2.2.2 c n * u n) 185
theorem nS_1 {h : am_H} {c : Nat} : nS h c (fun _ => 1) = sumZ (fun n => h.2.2.2 c n * 1) 185 := rfl
theorem sumZ_succ {u : Nat → Int} {n : Nat} : sumZ u (n + 1) = sumZ u n + u n := rfl
theorem sumZ_end {u : Nat → Int} {k : Nat} : ∀ {n : Nat}, k ≤ n → (∀ i, k ≤ i → i < n → u i = 0) → sumZ u n = sumZ u k := by
  intro n
  induction n with
  | zero => intro hk _; rw [show k = 0 by omega]
  | succ n ih =>
    intro hk h
    by_cases q : k = n + 1
    · rw [q]
    · rw [sumZ_succ, ih (by omega) (fun i h1 h2 => h i h1 (by omega)), h n (by omega) (by omega)]; omega
def cN (a : Nat → Int) (f : Nat → (Nat → Int) → Int) (w : Int) (j n : Nat) : Int := if n < 180 then cW a f w j (stN n) else if j = 0 ∧ w = 1 then 1 else 0
/-- cells of ways, and of ways then -/
def wyC (c t : Nat) : Prop := (c = 44 ∧ t = 45) ∨ (c = 45 ∧ t = 44)
theorem tlI.c {h : am_H} (x : tlI h) : ∃ c t, wyC c t ∧ h.2.2.2 43 1 = (c : Int) ∧ h.2.2.2 43 2 = (t : Int) := by
  rcases x with ⟨x1, x2⟩ | ⟨x1, x2⟩
  · exact ⟨44, 45, Or.inl ⟨rfl, rfl⟩, x1, x2⟩
  · exact ⟨45, 44, Or.inr ⟨rfl, rfl⟩, x1, x2⟩
theorem wyC.k {c t : Nat} (x : wyC c t) : (c < 133 ∧ wk c = (2, 185) ∧ c ∉ wr_o) ∧ (t < 133 ∧ wk t = (2, 185) ∧ t ∉ wr_o) ∧ c ≠ t ∧ (c = 44 ∨ c = 45) ∧ (t = 44 ∨ t = 45) := by
  rcases x with ⟨rfl, rfl⟩ | ⟨rfl, rfl⟩ <;> decide +kernel
theorem wyC.s {c t : Nat} (x : wyC c t) : wyC t c := by
  rcases x with ⟨x, y⟩ | ⟨x, y⟩
  · exact Or.inr ⟨y, x⟩
  · exact Or.inl ⟨y, x⟩
theorem soB0 {a : Nat → Int} {st : Int} : soB a 0 st = true ↔ actI st = a 3 := by unfold soB; rw [if_pos rfl, decide_eq_true_eq]
theorem soB1 {a : Nat → Int} {st : Int} : soB a 1 st = true ↔ (¬ actI st = a 3 ∧ st % 2 = 1) := by unfold soB; rw [if_neg (by decide), if_pos rfl, decide_eq_true_eq]
theorem soB2 {a : Nat → Int} {st : Int} : soB a 2 st = true ↔ ¬ ovT a st := by unfold soB; rw [if_neg (by decide), if_neg (by decide), decide_eq_true_eq]
section NS
variable {h g : am_H} {a : Nat → Int} {f : Nat → (Nat → Int) → Int} {B w : Int}
theorem nS_put {c n : Nat} {u : Nat → Int} {v : Int} (hn : n < 185) (e : g = am_put h c n v) : nS g c u = nS h c u + (v - h.2.2.2 c n) * u n := by
  have cc : ∀ j, g.2.2.2 c j = if j = n then v else h.2.2.2 c j := by intro j; rw [e]; simp only [put_at, true_and]
  unfold nS
  rw [sumZ_upd (u := fun j => h.2.2.2 c j * u j) (v := fun j => g.2.2.2 c j * u j) (k := n) hn (fun i hi hne => by
    show g.2.2.2 c i * u i = _
    rw [cc, if_neg hne])]
  show _ + (g.2.2.2 c n * u n - h.2.2.2 c n * u n) = _
  rw [cc, if_pos rfl, ← Int.sub_mul]
theorem cN_node (hw : 0 ≤ w ∧ w ≤ 2) {st : Int} (so : stOk a st) (j : Nat) : cN a f w j (nodeS st).toNat = cW a f w j st := by
  unfold cN
  by_cases q : st % 2 = 1
  · have no := nodeS_o so.1 q
    have na := so.2.2.2.2 q
    rw [if_neg (by omega)]
    have ov : ovT a st := Or.inr q
    cases j with
    | zero =>
      simp only [cW, true_and]
      rcases (by omega : w = 0 ∨ w = 1 ∨ w = 2) with e | e | e
      · subst e
        rw [if_neg (show ¬ (0 : Int) = 1 by omega), if_neg (fun c => by have := soB0.mp c; omega)]
      · subst e
        rw [if_pos rfl, if_pos (soB1.mpr ⟨by omega, q⟩)]
      · subst e
        rw [if_neg (show ¬ (2 : Int) = 1 by omega), if_neg (fun c => soB2.mp c ov)]
    | succ j =>
      simp only [cW]
      rw [if_neg (by omega), if_pos ov]
  · have ne := nodeS_e so.1 q
    rw [if_pos (by omega), show (((nodeS st).toNat : Nat) : Int) = nodeS st by omega, ne.2.1]
/-- numbers at nodes that rows come to -/
def spN (h : am_H) (c : Nat) (a : Nat → Int) (f : Nat → (Nat → Int) → Int) : Prop := ∀ n, n < 185 → 0 ≤ h.2.2.2 c n ∧ (h.2.2.2 c n ≠ 0 → ∃ st, Rch a f st ∧ n = (nodeS st).toNat)
def nwI (b g : am_H) (t : Nat) (a : Nat → Int) (f : Nat → (Nat → Int) → Int) (u : Nat → Int) (U V : Int) : Prop := wf g ∧ grP g a f ∧ fr [t] [] b g ∧ spN g t a f ∧ nS g t (fun _ => 1) ≤ U ∧ nS g t u = V
theorem nwI.add {b g g2 : am_H} {t : Nat} {u : Nat → Int} {U V x s : Int} (r : rok a f B) (ht : t = 44 ∨ t = 45) (y : nwI b g t a f u U V) (hr : Rch a f s) (hx : 0 ≤ x) (e : g2 = am_put g t (nodeS s).toNat (g.2.2.2 t (nodeS s).toNat + x)) : nwI b g2 t a f u (U + x) (V + x * u (nodeS s).toNat) := by
  obtain ⟨y1, y2, y3, y4, y5, y6⟩ := y
  have nb := node_b (hr.ok r).1
  have f2 : fr [t] [] g g2 := by rw [e]; exact fr.rfl.put (Or.inl (by simp))
  have p1 := nS_put (u := fun _ => 1) (by omega) e
  have p2 := nS_put (u := u) (by omega) e
  have to : t ∉ wr_o := by rcases ht with rfl | rfl <;> decide +kernel
  refine ⟨by rw [e]; exact y1.pa to, y2.fr f2 (by simp; omega) (by simp), y3.trans f2, fun n hn => ?_, ?_, ?_⟩
  · rw [e]
    simp only [put_at, true_and]
    by_cases q : n = (nodeS s).toNat
    · rw [if_pos q]
      have := (y4 _ (by omega : (nodeS s).toNat < 185)).1
      exact ⟨by omega, fun _ => ⟨s, hr, q⟩⟩
    · rw [if_neg q]; exact y4 n hn
  · rw [p1, show g.2.2.2 t (nodeS s).toNat + x - g.2.2.2 t (nodeS s).toNat = x by omega, Int.mul_one]
    omega
  · rw [p2, show g.2.2.2 t (nodeS s).toNat + x - g.2.2.2 t (nodeS s).toNat = x by omega, y6]
theorem nwI.el {b g : am_H} {t n : Nat} {u : Nat → Int} {U V : Int} (y : nwI b g t a f u U V) (hn : n < 185) : 0 ≤ g.2.2.2 t n ∧ g.2.2.2 t n ≤ U := by
  obtain ⟨y1, y2, y3, y4, y5, y6⟩ := y
  refine ⟨(y4 n hn).1, ?_⟩
  have := sumZ_el (u := fun n => g.2.2.2 t n * 1) (n := 185) (k := n) (fun i hi => by
    show 0 ≤ g.2.2.2 t i * 1
    have := (y4 i hi).1; omega) hn
  have this : g.2.2.2 t n * 1 ≤ sumZ (fun n => g.2.2.2 t n * 1) 185 := this
  rw [nS_1] at y5
  omega
end NS
section NC
variable {scr : Nat × (Nat → Int)} {d : Nat} {h : am_H} {Q : Option am_V → am_H → Prop} {W : Wd} {ser : Nat} {a : Nat → Int} {f : Nat → (Nat → Int) → Int} {B w : Int} {c t : Nat}
theorem k_tbegin (hs : am_sc scr) (hw : wf h) (x : grP h a f) (r : rok a f B) (hc : wyC c t) (e1 : h.2.2.2 43 1 = (c : Int)) (H : ∀ g, wf g → grP g a f → fr [c] [] h g → (∀ n, n < 185 → g.2.2.2 c n = if n = (nodeS (stA a)).toNat then 1 else 0) → Q none g) : am_R (am_prog scr) (d + 1) f_Tally_begin 0 [some (.inr (.inr (((43) : Nat) : Int)))] [] h Q := by
  have k := hc.k
  have nb := node_b r.st.1
  refine w_Tally_begin_0 hs hw ?_
  rw [e1]
  refine k_fillL (n := 185) hs hw k.1.1 k.1.2.1 (by omega) k.1.2.2 (fun g1 w1 f1 ee => ⟨rfl, w1, ?_⟩)
  have x1 : grP g1 a f := x.fr f1 (by simp; omega) (by simp)
  have e1' : g1.2.2.2 43 1 = (c : Int) := by rw [f1.f 43 1 (by simp; omega) (by simp)]; exact e1
  rw [e1', x1.2.1.1, Int.toNat_natCast]
  refine ⟨w1.a k.1.1 k.1.2.1 nb.1 nb.2, k.1.2.2, fun h4 e4 => ?_⟩
  have f4 : fr [c] [] g1 h4 := by rw [e4]; exact fr.rfl.put (Or.inl (by simp))
  refine H h4 (by rw [e4]; exact w1.pa k.1.2.2) (x1.fr f4 (by simp; omega) (by simp)) (f1.trans f4) (fun n hn => ?_)
  rw [e4]
  simp only [put_at, true_and]
  rw [ee n, if_pos hn]
theorem k_endBeat (hs : am_sc scr) (hw : wf h) (hc : wyC c t) (e1 : h.2.2.2 43 1 = (c : Int)) (e2 : h.2.2.2 43 2 = (t : Int)) (H : ∀ g, wf g → fr [] [(43, 1), (43, 2)] h g → g.2.2.2 43 1 = (t : Int) → g.2.2.2 43 2 = (c : Int) → Q none g) : am_R (am_prog scr) d f_Tally_endBeat 0 [some (.inr (.inr (((43) : Nat) : Int))), none] [] h Q := by
  refine w_Tally_endBeat_0 hs hw ?_
  rw [e1, e2]
  refine ⟨by omega, fun h2 q2 => ⟨by omega, fun h4 q4 => ?_⟩⟩
  exact H h4 (by rw [q4, q2]; exact (hw.put np_43_1).put np_43_2) (by rw [q4, q2]; exact (fr.rfl.put (Or.inr (by decide))).put (Or.inr (by decide))) (by rw [q4, put_ne (by omega), q2]; exact put_eq) (by rw [q4]; exact put_eq)
theorem k_trows_57 {b : am_H} {x1 x2 x3 st M U V : Int} {u : Nat → Int} (hs : am_sc scr) (r : rok a f B) (hc : wyC c t) (b1 : b.2.2.2 43 1 = (c : Int)) (b2 : b.2.2.2 43 2 = (t : Int)) (hr : Rch a f st) (ho : ¬ ovT a st) (hM : b.2.2.2 c (nodeS st).toNat = M) (hM0 : 0 ≤ M) (hU : 0 ≤ U ∧ U + 7 * M < 1000000000000) (K : ∀ g, nwI b g t a f u (U + 7 * M) (V + M * sumZ (fun e => u (nodeS (Tr a f st (e : Int))).toNat) (a 4 + 1).toNat) → am_R (am_prog scr) (d + 2) f_Tally_rowsOf 22 [some (.inr (.inr (((43) : Nat) : Int))), some (.inl (x1)), some (.inl (x2)), some (.inl (x3)), some (.inl (nodeS st + 1)), none, none] [] g Q) : ∀ (m e : Nat) (g : am_H), e + m = (a 4 + 1).toNat → nwI b g t a f u (U + e * M) (V + M * sumZ (fun e => u (nodeS (Tr a f st (e : Int))).toNat) e) → am_R (am_prog scr) (d + 2) f_Tally_rowsOf 57 [some (.inr (.inr (((43) : Nat) : Int))), some (.inl (x1)), some (.inl (x2)), some (.inl (x3)), some (.inl (nodeS st)), some (.inl ((e : Int))), none] [] g Q := by
  have k := hc.k
  have h4 := r.1.1
  have so := hr.ok r
  have nb := on_144 r so ho
  intro m
  induction m with
  | zero =>
    intro e g he y
    refine w_Tally_rowsOf_57 hs y.1 ?_
    refine k_gSleepers hs y.1 y.2.1.1 ⟨_, rfl, y.1, fun _ q hq => ?_, fun c => by omega⟩
    rw [am_w_id (by omega) (by omega)] at hq
    subst hq
    have em : (e : Int) * M ≤ 7 * M := Int.mul_le_mul_of_nonneg_right (by omega) hM0
    obtain ⟨y1, y2, y3, y4, y5, y6⟩ := y
    rw [show e = (a 4 + 1).toNat by omega] at y6
    exact K g ⟨y1, y2, y3, y4, by omega, y6⟩
  | succ m ih =>
    intro e g he y
    have em : (e : Int) * M ≤ 7 * M := Int.mul_le_mul_of_nonneg_right (by omega) hM0
    have em0 : 0 ≤ (e : Int) * M := Int.mul_nonneg (by omega) hM0
    have g1 : g.2.2.2 43 1 = (c : Int) := by rw [y.2.2.1.f 43 1 (by simp; omega) (by simp)]; exact b1
    have g2 : g.2.2.2 43 2 = (t : Int) := by rw [y.2.2.1.f 43 2 (by simp; omega) (by simp)]; exact b2
    have gM : g.2.2.2 c (nodeS st).toNat = M := by rw [y.2.2.1.f c _ (by simp; omega) (by simp)]; exact hM
    refine w_Tally_rowsOf_57 hs y.1 ?_
    refine k_gSleepers hs y.1 y.2.1.1 ⟨_, rfl, y.1, fun c => by omega, fun _ => ?_⟩
    refine k_after hs y.1 y.2.1.2.2 r so ho (y.2.1.2.1.known r hr ho) (by omega) ⟨_, rfl, y.1, ?_⟩
    have tr := hr.step (e := (e : Int)) ho ⟨by omega, by omega⟩
    have nt := node_b (tr.ok r).1
    rw [g1, g2, Int.toNat_natCast, Int.toNat_natCast, gM]
    have el := y.el (n := (nodeS (Tr a f st (e : Int))).toNat) (by omega)
    refine ⟨y.1.a k.2.1.1 k.2.1.2.1 nt.1 nt.2, y.1.a k.1.1 k.1.2.1 (by omega) (by omega), y.1.a k.2.1.1 k.2.1.2.1 nt.1 nt.2, k.2.1.2.2, fun h10 e10 q hq => ?_⟩
    rw [am_W_id (by omega) (by omega)] at e10
    rw [am_w_id (by omega) (by omega)] at hq
    obtain rfl : q = ((e + 1 : Nat) : Int) := by omega
    have y2 := y.add r k.2.2.2.2 tr hM0 e10
    refine ih (e + 1) h10 (by omega) ?_
    obtain ⟨y1, y2, y3, y4, y5, y6⟩ := y2
    refine ⟨y1, y2, y3, y4, ?_, ?_⟩
    · rw [show ((e + 1 : Nat) : Int) * M = (e : Int) * M + M by rw [Int.natCast_add, Int.add_mul]; simp]
      omega
    · rw [y6]
      simp only [sumZ]
      rw [Int.mul_add]
      omega
theorem k_trows_22 {b : am_H} {x1 x2 x3 : Int} {j : Nat} (hs : am_sc scr) (r : rok a f B) (hw2 : 0 ≤ w ∧ w ≤ 2) (hc : wyC c t) (b1 : b.2.2.2 43 1 = (c : Int)) (b2 : b.2.2.2 43 2 = (t : Int)) (sp : spN b c a f) (hT : nS b c (fun _ => 1) ≤ 300000000) (K : ∀ g, nwI b g t a f (cN a f w j) (7 * nS b c (fun _ => 1)) (nS b c (cN a f w (j + 1))) → am_R (am_prog scr) (d + 1) f_Tally_endBeat 0 [some (.inr (.inr (((43) : Nat) : Int))), none] [] g (fun v g1 => v = none ∧ wf g1 ∧ (∀ y2 : Int, y2 = am_w (x3 + 1) → (am_R (am_prog scr) (d + 2) f_Tally_rowsOf 6 [some (.inr (.inr (((43) : Nat) : Int))), some (.inl (x1)), some (.inl (x2)), some (.inl (y2)), none, none, none] [] g1 Q)))) : ∀ (m k : Nat) (g : am_H), k + m = 180 → nwI b g t a f (cN a f w j) (7 * sumZ (fun n => b.2.2.2 c n * 1) k) (sumZ (fun n => b.2.2.2 c n * cN a f w (j + 1) n) k) → am_R (am_prog scr) (d + 2) f_Tally_rowsOf 22 [some (.inr (.inr (((43) : Nat) : Int))), some (.inl (x1)), some (.inl (x2)), some (.inl (x3)), some (.inl ((k : Int))), none, none] [] g Q := by
  have kc := hc.k
  have nn : ∀ i, i < 185 → 0 ≤ (fun n => b.2.2.2 c n * 1) i := fun i hi => by
    show 0 ≤ b.2.2.2 c i * 1
    have := (sp i hi).1; omega
  intro m
  induction m with
  | zero =>
    intro k g hk y
    refine w_Tally_rowsOf_22 hs y.1 ⟨fun _ => K g ?_, fun c => by omega⟩
    obtain ⟨y1, y2, y3, y4, y5, y6⟩ := y
    have s1 := sumZ_mono (k := k) nn (by omega)
    refine ⟨y1, y2, y3, y4, by rw [nS_1 (h := b) (c := c)]; omega, ?_⟩
    rw [y6]
    unfold nS
    have z : ∀ n, 180 ≤ n → cN a f w (j + 1) n = 0 := fun n hn => by unfold cN; rw [if_neg (by omega), if_neg (by omega)]
    rw [sumZ_end (k := k) (n := 185) (by omega) (fun i h1 h2 => by rw [z i (by omega)]; simp)]
  | succ m ih =>
    intro k g hk y
    have g1 : g.2.2.2 43 1 = (c : Int) := by rw [y.2.2.1.f 43 1 (by simp; omega) (by simp)]; exact b1
    have gM : g.2.2.2 c k = b.2.2.2 c k := by rw [y.2.2.1.f c _ (by simp; omega) (by simp)]
    have s0 := sumZ_nn (n := k) (fun i hi => nn i (by omega))
    have s1 := sumZ_mono (k := k + 1) nn (by omega)
    rw [sumZ_succ] at s1
    rw [nS_1] at hT
    have nxt : b.2.2.2 c k * cN a f w (j + 1) k = 0 → ∀ q, q = am_w ((k : Int) + 1) → am_R (am_prog scr) (d + 2) f_Tally_rowsOf 22 [some (.inr (.inr (((43) : Nat) : Int))), some (.inl (x1)), some (.inl (x2)), some (.inl (x3)), some (.inl (q)), none, none] [] g Q := by
      intro z q hq
      rw [am_w_id (by omega) (by omega)] at hq
      obtain rfl : q = ((k + 1 : Nat) : Int) := by omega
      refine ih (k + 1) g (by omega) ?_
      obtain ⟨y1, y2, y3, y4, y5, y6⟩ := y
      have := (sp k (by omega)).1
      refine ⟨y1, y2, y3, y4, by simp only [sumZ]; omega, by simp only [sumZ]; omega⟩
    refine w_Tally_rowsOf_22 hs y.1 ⟨fun c => by omega, fun _ => ?_⟩
    rw [g1, Int.toNat_natCast, Int.toNat_natCast, gM]
    refine ⟨y.1.a kc.1.1 kc.1.2.1 (by omega) (by omega), fun c1 => nxt (by rw [c1]; simp), fun c1 => ?_⟩
    obtain ⟨st, s2, s3⟩ := (sp k (by omega)).2 c1
    have so := s2.ok r
    have nb := node_b so.1
    have ek : (k : Int) = nodeS st := by omega
    rw [ek]
    have cn : cN a f w (j + 1) k = cW a f w (j + 1) st := by rw [s3]; exact cN_node hw2 so _
    refine k_gOn hs y.1 y.2.1.1 so ⟨_, rfl, y.1, fun c2 => ?_, fun c2 => ?_⟩
    · have ho : ovT a st := by
        apply Decidable.byContradiction; intro q; rw [if_neg q] at c2; omega
      rw [← ek]
      refine nxt ?_
      rw [cn]
      simp only [cW]
      rw [if_pos ho]; simp
    · have ho : ¬ ovT a st := by
        intro q; rw [if_pos q] at c2; omega
      have M0 := (sp k (by omega)).1
      refine k_trows_57 (b := b) (u := cN a f w j) (M := b.2.2.2 c k) (U := 7 * sumZ (fun n => b.2.2.2 c n * 1) k) (V := sumZ (fun n => b.2.2.2 c n * cN a f w (j + 1) n) k) hs r hc b1 b2 s2 ho (by rw [← s3]) M0 (by omega) (fun g2 y2 => ?_) (a 4 + 1).toNat 0 g (by omega) ?_
      · rw [← ek, show (k : Int) + 1 = ((k + 1 : Nat) : Int) by omega]
        refine ih (k + 1) g2 (by omega) ?_
        obtain ⟨z1, z2, z3, z4, z5, z6⟩ := y2
        refine ⟨z1, z2, z3, z4, by simp only [sumZ]; omega, ?_⟩
        rw [z6]
        simp only [sumZ]
        rw [cn]
        simp only [cW]
        rw [if_neg ho, sumZ_congr (u := fun e => cW a f w j (Tr a f st (e : Int))) (v := fun e => cN a f w j (nodeS (Tr a f st (e : Int))).toNat) (fun i hi => by
          have h4 := r.1.1
          exact cN_node hw2 (Tr_ok r so ho) j)]
      · obtain ⟨z1, z2, z3, z4, z5, z6⟩ := y
        refine ⟨z1, z2, z3, z4, by rw [show ((0 : Nat) : Int) = 0 from rfl, Int.zero_mul, Int.add_zero]; exact z5, by rw [z6]; simp [sumZ]⟩
theorem k_rowsOf {nn : Nat} (hs : am_sc scr) (hw : wf h) (x : grP h a f) (r : rok a f B) (tl : tlI h) (hw2 : 0 ≤ w ∧ w ≤ 2) (hn : nn ≤ 10) (H : ∀ g, wf g → fr [44, 45] [(43, 1), (43, 2)] h g → tlI g → Q (some (.inr (.inl (cW a f w nn (stA a))))) g) : am_R (am_prog scr) (d + 3) f_Tally_rowsOf 0 [some (.inr (.inr (((43) : Nat) : Int))), some (.inl (w)), some (.inl ((nn : Int))), none, none, none, none] [] h Q := by
  obtain ⟨c, t, hc, e1, e2⟩ := tl.c
  have kc := hc.k
  refine w_Tally_rowsOf_0 hs hw ?_
  refine k_tbegin hs hw x r hc e1 (fun g1 w1 x1 f1 ee => ⟨rfl, w1, ?_⟩)
  have fr1 : fr [44, 45] [(43, 1), (43, 2)] h g1 := f1.mono (by simp; omega) (by simp)
  have last : ∀ (g : am_H) (c t : Nat), wyC c t → wf g → grP g a f → fr [44, 45] [(43, 1), (43, 2)] h g → g.2.2.2 43 1 = (c : Int) → g.2.2.2 43 2 = (t : Int) → spN g c a f → nS g c (fun _ => 1) ≤ 300000000 → nS g c (cN a f w 0) = cW a f w nn (stA a) → am_R (am_prog scr) (d + 3) f_Tally_rowsOf 122 [some (.inr (.inr (((43) : Nat) : Int))), some (.inl (w)), some (.inl ((nn : Int))), some (.inr (.inl (0))), none, some (.inl (0)), none] [] g Q := by
    intro g c t hc wg xg fg g1 g2 sp tg vg
    have kc := hc.k
    have trm : ∀ k, k < 185 → g.2.2.2 c k * cN a f w 0 k = (if (if k < 180 ∧ a 3 ≤ ((k : Int) / 36) then 0 else if k < 180 then 2 else 1) = w then g.2.2.2 c k else 0) := by
      intro k hk
      by_cases q : g.2.2.2 c k = 0
      · rw [q]; simp
      · obtain ⟨st, s1, s2⟩ := (sp k hk).2 q
        have so := s1.ok r
        have nb := node_b so.1
        have ek : (k : Int) = nodeS st := by omega
        have cn : cN a f w 0 k = cW a f w 0 st := by rw [s2]; exact cN_node hw2 so _
        rw [cn]
        simp only [cW]
        have ei := end_iff so
        have sob : soB a w st = true ↔ (if k < 180 ∧ a 3 ≤ ((k : Int) / 36) then (0 : Int) else if k < 180 then 2 else 1) = w := by
          by_cases q1 : k < 180 ∧ a 3 ≤ ((k : Int) / 36)
          · rw [if_pos q1]
            have e1 : actI st = a 3 := ei.mp (by omega)
            rcases (by omega : w = 0 ∨ w = 1 ∨ w = 2) with e | e | e
            · subst e; exact ⟨fun _ => rfl, fun _ => soB0.mpr e1⟩
            · subst e; exact ⟨fun c => absurd e1 (soB1.mp c).1, fun c => by omega⟩
            · subst e; exact ⟨fun c => absurd (Or.inl e1) (soB2.mp c), fun c => by omega⟩
          · rw [if_neg q1]
            have e1 : ¬ actI st = a 3 := fun e => q1 (by have := ei.mpr e; omega)
            by_cases q2 : k < 180
            · rw [if_pos q2]
              have ev : ¬ st % 2 = 1 := fun z => by have := nodeS_o so.1 z; omega
              have nov : ¬ ovT a st := by
                intro z
                rcases z with z | z
                · exact e1 z
                · exact ev z
              rcases (by omega : w = 0 ∨ w = 1 ∨ w = 2) with e | e | e
              · subst e; exact ⟨fun c => absurd (soB0.mp c) e1, fun c => by omega⟩
              · subst e; exact ⟨fun c => absurd (soB1.mp c).2 ev, fun c => by omega⟩
              · subst e; exact ⟨fun _ => rfl, fun _ => soB2.mpr nov⟩
            · rw [if_neg q2]
              have od : st % 2 = 1 := by
                apply Decidable.byContradiction; intro z; have := nodeS_e so.1 z; omega
              rcases (by omega : w = 0 ∨ w = 1 ∨ w = 2) with e | e | e
              · subst e; exact ⟨fun c => absurd (soB0.mp c) e1, fun c => by omega⟩
              · subst e; exact ⟨fun _ => rfl, fun _ => soB1.mpr ⟨e1, od⟩⟩
              · subst e; exact ⟨fun c => absurd (Or.inr od) (soB2.mp c), fun c => by omega⟩
        by_cases q3 : soB a w st = true
        · rw [if_pos q3, if_pos (sob.mp q3)]; omega
        · rw [if_neg q3, if_neg (fun c => q3 (sob.mpr c))]; omega
    have bnd : ∀ k, k ≤ 185 → 0 ≤ sumZ (fun n => g.2.2.2 c n * cN a f w 0 n) k ∧ sumZ (fun n => g.2.2.2 c n * cN a f w 0 n) k ≤ 300000000 := by
      intro k hk
      have n1 := sumZ_nn (u := fun n => g.2.2.2 c n * cN a f w 0 n) (n := k) (fun i hi => by
        show 0 ≤ g.2.2.2 c i * cN a f w 0 i
        rw [trm i (by omega)]
        have := (sp i (by omega)).1
        split <;> omega)
      have n2 := sumZ_le (u := fun n => g.2.2.2 c n * cN a f w 0 n) (v := fun n => g.2.2.2 c n * 1) (n := k) (fun i hi => by
        show g.2.2.2 c i * cN a f w 0 i ≤ g.2.2.2 c i * 1
        rw [trm i (by omega)]
        have := (sp i (by omega)).1
        split <;> omega)
      have n3 := sumZ_mono (u := fun n => g.2.2.2 c n * 1) (k := k) (n := 185) (fun i hi => by
        show 0 ≤ g.2.2.2 c i * 1
        have := (sp i hi).1; omega) hk
      rw [nS_1] at tg
      omega
    have lp : ∀ (m k : Nat), k + m = 185 → am_R (am_prog scr) (d + 3) f_Tally_rowsOf 122 [some (.inr (.inr (((43) : Nat) : Int))), some (.inl (w)), some (.inl ((nn : Int))), some (.inr (.inl (sumZ (fun n => g.2.2.2 c n * cN a f w 0 n) k))), none, some (.inl ((k : Int))), none] [] g Q := by
      intro m
      induction m with
      | zero =>
        intro k hk
        refine w_Tally_rowsOf_122 hs wg ⟨fun _ => ?_, fun c => by omega⟩
        have tg2 : tlI g := by
          rcases hc with ⟨q1, q2⟩ | ⟨q1, q2⟩
          · exact Or.inl ⟨by omega, by omega⟩
          · exact Or.inr ⟨by omega, by omega⟩
        have HH := H g wg fg tg2
        rw [← vg] at HH
        rw [show k = 185 by omega]
        exact HH
      | succ m ih =>
        intro k hk
        have b0 := bnd k (by omega)
        have b1 := bnd (k + 1) (by omega)
        simp only [sumZ] at b1
        have tk := trm k (by omega)
        have no : ∀ z : Int, z = (if k < 180 ∧ a 3 ≤ ((k : Int) / 36) then 0 else if k < 180 then 2 else 1) → ¬ z = w → ∀ y, y = am_w ((k : Int) + 1) → am_R (am_prog scr) (d + 3) f_Tally_rowsOf 122 [some (.inr (.inr (((43) : Nat) : Int))), some (.inl (w)), some (.inl ((nn : Int))), some (.inr (.inl (sumZ (fun n => g.2.2.2 c n * cN a f w 0 n) k))), none, some (.inl (y)), none] [] g Q := by
          intro z hz hzw y hy
          rw [am_w_id (by omega) (by omega)] at hy
          obtain rfl : y = ((k + 1 : Nat) : Int) := by omega
          have := ih (k + 1) (by omega)
          simp only [sumZ] at this
          rw [tk, if_neg (by rw [← hz]; exact hzw), Int.add_zero] at this
          exact this
        have yes : ∀ z : Int, z = (if k < 180 ∧ a 3 ≤ ((k : Int) / 36) then 0 else if k < 180 then 2 else 1) → z = w → (am_inA g (g.2.2.2 43 1) 2 (k : Int) ∧ (∀ y7 : Int, y7 = am_W (sumZ (fun n => g.2.2.2 c n * cN a f w 0 n) k + (g.2.2.2 (g.2.2.2 43 1).toNat (k : Int).toNat)) → (∀ y8 : Int, y8 = am_w ((k : Int) + 1) → (am_R (am_prog scr) (d + 3) f_Tally_rowsOf 122 [some (.inr (.inr (((43) : Nat) : Int))), some (.inl (w)), some (.inl ((nn : Int))), some (.inr (.inl (y7))), none, some (.inl (y8)), none] [] g Q)))) := by
          intro z hz hzw
          rw [g1, Int.toNat_natCast, Int.toNat_natCast]
          rw [if_pos (by rw [← hz]; exact hzw)] at tk
          refine ⟨wg.a kc.1.1 kc.1.2.1 (by omega) (by omega), fun y7 h7 y8 h8 => ?_⟩
          rw [am_W_id (by omega) (by omega)] at h7
          rw [am_w_id (by omega) (by omega)] at h8
          obtain rfl : y8 = ((k + 1 : Nat) : Int) := by omega
          have := ih (k + 1) (by omega)
          simp only [sumZ] at this
          rw [tk, ← h7] at this
          exact this
        refine w_Tally_rowsOf_122 hs wg ⟨fun c => by omega, fun _ => ?_⟩
        refine k_gEndN hs wg xg.1 (by omega) ⟨_, rfl, wg, fun c1 => ?_, fun c1 => ?_⟩
        · rw [i0] at c1
          refine k_gStill hs wg ⟨_, rfl, wg, fun c2 => ?_, fun c2 => ?_⟩
          · have c3 : (k : Int) < 180 := by
              apply Decidable.byContradiction; intro q; rw [if_neg q] at c2; omega
            have hz : (2 : Int) = (if k < 180 ∧ a 3 ≤ ((k : Int) / 36) then 0 else if k < 180 then 2 else 1) := by rw [if_neg (by omega), if_pos (by omega)]
            exact ⟨fun c4 => no 2 hz c4, fun c4 => yes 2 hz c4⟩
          · have c3 : ¬ (k : Int) < 180 := fun q => c2 (by rw [if_pos q])
            have hz : (1 : Int) = (if k < 180 ∧ a 3 ≤ ((k : Int) / 36) then 0 else if k < 180 then 2 else 1) := by rw [if_neg (by omega), if_neg (by omega)]
            exact ⟨fun c4 => no 1 hz c4, fun c4 => yes 1 hz c4⟩
        · rw [i0, Decidable.not_not] at c1
          have hz : (0 : Int) = (if k < 180 ∧ a 3 ≤ ((k : Int) / 36) then 0 else if k < 180 then 2 else 1) := by rw [if_pos (by omega)]
          exact ⟨fun c4 => no 0 hz c4, fun c4 => yes 0 hz c4⟩
    exact lp 185 0 rfl
  have lp : ∀ (m i : Nat) (g : am_H) (c t : Nat), i + m = nn → wyC c t → wf g → grP g a f → fr [44, 45] [(43, 1), (43, 2)] h g → g.2.2.2 43 1 = (c : Int) → g.2.2.2 43 2 = (t : Int) → spN g c a f → nS g c (fun _ => 1) ≤ (7 : Int) ^ i → nS g c (cN a f w m) = cW a f w nn (stA a) → am_R (am_prog scr) (d + 3) f_Tally_rowsOf 6 [some (.inr (.inr (((43) : Nat) : Int))), some (.inl (w)), some (.inl ((nn : Int))), some (.inl ((i : Int))), none, none, none] [] g Q := by
    intro m
    induction m with
    | zero =>
      intro i g c t hi hc wg xg fg g1 g2 sp tg vg
      have := pw7 i (by omega)
      exact w_Tally_rowsOf_6 hs wg ⟨fun _ => last g c t hc wg xg fg g1 g2 sp (by omega) vg, fun c => by omega⟩
    | succ m ih =>
      intro i g c t hi hc wg xg fg g1 g2 sp tg vg
      have p7 := pw7 i (by omega)
      have kc := hc.k
      refine w_Tally_rowsOf_6 hs wg ⟨fun c => by omega, fun _ => ?_⟩
      rw [g2]
      refine k_fillL (n := 185) hs wg kc.2.1.1 kc.2.1.2.1 (by omega) kc.2.1.2.2 (fun b wb fb eb => ⟨rfl, wb, ?_⟩)
      have b1 : b.2.2.2 43 1 = (c : Int) := by rw [fb.f 43 1 (by simp; omega) (by simp)]; exact g1
      have b2 : b.2.2.2 43 2 = (t : Int) := by rw [fb.f 43 2 (by simp; omega) (by simp)]; exact g2
      have bc : b.2.2.2 c = g.2.2.2 c := fb.c c (by simp; omega) (by simp)
      have spb : spN b c a f := by unfold spN; rw [bc]; exact sp
      have nSb : ∀ u, nS b c u = nS g c u := fun u => by unfold nS; rw [bc]
      have zt : ∀ n, n < 185 → b.2.2.2 t n = 0 := fun n hn => by rw [eb n, if_pos hn]
      refine k_trows_22 (b := b) (j := m) hs r hw2 hc b1 b2 spb (by rw [nSb]; omega) (fun g3 y3 => ?_) 180 0 b rfl ⟨wb, xg.fr fb (by simp; omega) (by simp), fr.rfl, fun n hn => ⟨by rw [zt n hn]; omega, fun q => absurd (zt n hn) q⟩, ?_, ?_⟩
      · obtain ⟨z1, z2, z3, z4, z5, z6⟩ := y3
        have h1 : g3.2.2.2 43 1 = (c : Int) := by rw [z3.f 43 1 (by simp; omega) (by simp)]; exact b1
        have h2 : g3.2.2.2 43 2 = (t : Int) := by rw [z3.f 43 2 (by simp; omega) (by simp)]; exact b2
        refine k_endBeat hs z1 hc h1 h2 (fun g4 w4 f4 k1 k2 => ⟨rfl, w4, fun y hy => ?_⟩)
        rw [am_w_id (by omega) (by omega)] at hy
        obtain rfl : y = ((i + 1 : Nat) : Int) := by omega
        have ct : g4.2.2.2 t = g3.2.2.2 t := f4.c t (by simp) (by simp; omega)
        refine ih (i + 1) g4 t c (by omega) hc.s w4 (z2.fr f4 (by simp) (by decide)) (((fg.trans (fb.mono (by simp; omega) (by simp))).trans (z3.mono (by simp; omega) (by simp))).trans (f4.mono (by simp) (by simp))) k1 k2 (by unfold spN; rw [ct]; exact z4) ?_ ?_
        · rw [nSb] at z5
          have : nS g4 t (fun _ => 1) = nS g3 t (fun _ => 1) := by unfold nS; rw [ct]
          rw [this, Int.pow_succ]
          omega
        · have : nS g4 t (cN a f w m) = nS g3 t (cN a f w m) := by unfold nS; rw [ct]
          rw [this, z6, nSb, vg]
      · have : nS b t (fun _ => 1) = 0 := by
          unfold nS
          refine sumZ_zero (fun n hn => ?_)
          rw [zt n hn]; simp
        rw [this]; simp [sumZ]
      · have : ∀ u : Nat → Int, sumZ (fun n => b.2.2.2 t n * u n) 185 = 0 := fun u => sumZ_zero (fun n hn => by rw [zt n hn]; simp)
        exact this _
  have nb := node_b r.st.1
  have one : ∀ u : Nat → Int, nS g1 c u = u (nodeS (stA a)).toNat := by
    intro u
    unfold nS
    rw [sumZ_one (k := (nodeS (stA a)).toNat) (by omega) (fun i hi hne => ?_)]
    · show g1.2.2.2 c (nodeS (stA a)).toNat * u (nodeS (stA a)).toNat = _
      rw [ee _ (by omega), if_pos rfl]; omega
    · show g1.2.2.2 c i * u i = 0
      rw [ee i hi, if_neg hne]; simp
  have := lp nn 0 g1 c t (by omega) hc w1 x1 fr1 (by rw [f1.f 43 1 (by simp; omega) (by simp)]; exact e1) (by rw [f1.f 43 2 (by simp; omega) (by simp)]; exact e2) (fun n hn => ?_) (by rw [one]; simp) (by rw [one]; exact cN_node hw2 r.ok nn)
  · exact this
  · rw [ee n hn]
    by_cases q : n = (nodeS (stA a)).toNat
    · rw [if_pos q]; exact ⟨by omega, fun _ => ⟨stA a, Rch.zero, q⟩⟩
    · rw [if_neg q]; exact ⟨by omega, fun c => absurd rfl c⟩
def TAL : List Nat := PPL ++ [44, 45]
def TAF : List (Nat × Nat) := PPF ++ [(43, 1), (43, 2)]
theorem tlI.fr {L : List Nat} {F : List (Nat × Nat)} {g : am_H} (x : tlI h) (q : fr L F h g) (h1 : ∀ x ∈ L, x ≠ 43) (h2 : ∀ x ∈ F, x.1 ≠ 43) : tlI g := by
  unfold tlI
  rw [q.c 43 (fun y => h1 _ y rfl) (fun y hy => h2 y hy)]
  exact x
theorem k_Srows {n : Int} (hs : am_sc scr) (hw : wf h) (wo : wc h W) (x : plW h W 24 ser a) (r : rok a (W.2.2.1 ser) B) (hB : B < 900000) (y : grI h W B) (tl : tlI h) (H : ∀ g, wf g → fr TAL TAF h g → wc g W → grI g W (B + 400) → tlI g → Q (some (.inr (.inl (if 0 ≤ w ∧ w ≤ 2 then (if 0 ≤ n ∧ n ≤ 10 then cW a (W.2.2.1 ser) w n.toNat (stA a) else -3) else -2)))) g) : am_R (am_prog scr) (d + 6) f_S_rows 0 [some (.inr (.inr (((0) : Nat) : Int))), some (.inl (w)), some (.inl (n))] [] h Q := by
  have y0 : grI h W (B + 400) := y.fr (L := []) (F := []) fr.rfl (by simp) (by simp) (by omega)
  have H0 := H h hw fr.rfl wo y0 tl
  refine w_S_rows_0 hs hw ⟨fun c => ?_, fun c => ⟨fun c2 => ⟨fun c3 => ?_, fun c3 => ⟨fun c4 => ?_, fun c4 => ?_⟩⟩, fun c2 => ?_⟩⟩
  · rw [if_neg (by omega)] at H0; exact H0
  · rw [if_pos (by omega), if_neg (by omega)] at H0; exact H0
  · rw [if_pos (by omega), if_pos (by omega)] at H
    refine k_prepare hs hw wo x r hB y (fun g1 w1 f1 wc1 y1 p1 => ⟨rfl, w1, ?_⟩)
    have en : n = ((n.toNat : Nat) : Int) := by omega
    rw [en]
    refine k_rowsOf hs w1 p1 r (tl.fr f1 (by decide) (by decide)) (by omega) (by omega) (fun g2 w2 f2 t2 => ⟨_, rfl, w2, ?_⟩)
    exact H g2 w2 ((f1.mono (by decide) (by decide)).trans (f2.mono (by decide) (by decide))) (wc1.fr f2 (by decide) (by decide)) (y1.fr f2 (by decide) (by decide) (by omega)) t2
  · rw [if_pos (by omega), if_neg (by omega)] at H0; exact H0
  · rw [if_neg (by omega)] at H0; exact H0
end NC
