/-! lots: what is meant, and the reference -/
def lW (a : Nat → Int) (f : Nat → (Nat → Int) → Int) (md : Int) : Nat → Int → Int
  | 0, st => if md = 0 then (if actI st = a 3 then 1 else 0) else actI st
  | j + 1, st => if ovT a st then 10 * lW a f md j st else sumZ (fun s => lW a f md j (beatS a f (a 28) st (s : Int))) (a 4).toNat + (10 - a 4) * lW a f md j (beatS a f (a 28) st (-1))
def mS (h : am_H) (c : Nat) (u : Int → Int) : Int := sumZ (fun n => h.2.2.2 c n * u (n : Int)) 360
theorem mS_1 {h : am_H} {c : Nat} : mS h c (fun _ => 1) = sumZ (fun n => h.2.2.2 c n * 1) 360 := rfl
/-- of above and 10^n in lowest terms -/
def q_part (ab : Int) (n : Nat) (what : Int) : Int := (if what = 0 then ab else (10 : Int) ^ n) / ((Nat.gcd ab.toNat ((10 : Int) ^ n).toNat : Nat) : Int)
theorem pw10 (i : Nat) (hi : i ≤ 7) : (1 : Int) ≤ (10 : Int) ^ i ∧ (10 : Int) ^ i ≤ 10000000 := by
  have : ∀ i : Nat, i < 8 → (1 : Int) ≤ (10 : Int) ^ i ∧ (10 : Int) ^ i ≤ 10000000 := by decide +kernel
  exact this i (by omega)
theorem gcd_step {x y : Int} (hx : 0 ≤ x) (hy : 0 < y) : Nat.gcd x.toNat y.toNat = Nat.gcd y.toNat (x % y).toNat := by
  have e : (x % y).toNat = x.toNat % y.toNat := by
    obtain ⟨m, rfl⟩ : ∃ m : Nat, x = m := ⟨x.toNat, by omega⟩
    obtain ⟨n, rfl⟩ : ∃ n : Nat, y = n := ⟨y.toNat, by omega⟩
    rw [Int.toNat_natCast, Int.toNat_natCast, ← Int.natCast_emod, Int.toNat_natCast]
  rw [e, Nat.gcd_comm x.toNat, Nat.gcd_rec, Nat.gcd_comm]
section LX
variable {h g : am_H} {a : Nat → Int} {f : Nat → (Nat → Int) → Int} {B md : Int}
theorem mS_put {c n : Nat} {u : Int → Int} {v : Int} (hn : n < 360) (e : g = am_put h c n v) : mS g c u = mS h c u + (v - h.2.2.2 c n) * u (n : Int) := by
  have cc : ∀ j, g.2.2.2 c j = if j = n then v else h.2.2.2 c j := by intro j; rw [e]; simp only [put_at, true_and]
  unfold mS
  rw [sumZ_upd (u := fun j => h.2.2.2 c j * u (j : Int)) (v := fun j => g.2.2.2 c j * u (j : Int)) (k := n) hn (fun i hi hne => by
    show g.2.2.2 c i * u (i : Int) = _
    rw [cc, if_neg hne])]
  show _ + (g.2.2.2 c n * u (n : Int) - h.2.2.2 c n * u (n : Int)) = _
  rw [cc, if_pos rfl, ← Int.sub_mul]
def spM (h : am_H) (c : Nat) (a : Nat → Int) (f : Nat → (Nat → Int) → Int) : Prop := ∀ n : Nat, n < 360 → 0 ≤ h.2.2.2 c n ∧ (h.2.2.2 c n ≠ 0 → Rch a f (n : Int))
def mwI (b g : am_H) (a : Nat → Int) (f : Nat → (Nat → Int) → Int) (u : Int → Int) (U V : Int) : Prop := wf g ∧ fr [114, 115, 125] [] b g ∧ spM g 125 a f ∧ mS g 125 (fun _ => 1) ≤ U ∧ mS g 125 u = V
theorem mwI.el {b g : am_H} {n : Nat} {u : Int → Int} {U V : Int} (y : mwI b g a f u U V) (hn : n < 360) : 0 ≤ g.2.2.2 125 n ∧ g.2.2.2 125 n ≤ U := by
  obtain ⟨y1, y3, y4, y5, y6⟩ := y
  refine ⟨(y4 n hn).1, ?_⟩
  have := sumZ_el (u := fun n => g.2.2.2 125 n * 1) (n := 360) (k := n) (fun i hi => by
    show 0 ≤ g.2.2.2 125 i * 1
    have := (y4 i hi).1; omega) hn
  have this : g.2.2.2 125 n * 1 ≤ sumZ (fun n => g.2.2.2 125 n * 1) 360 := this
  rw [mS_1] at y5
  omega
theorem mwI.keep {b g g2 : am_H} {u : Int → Int} {U V : Int} (y : mwI b g a f u U V) (w2 : wf g2) (f2 : fr [114, 115] [] g g2) : mwI b g2 a f u U V := by
  obtain ⟨y1, y3, y4, y5, y6⟩ := y
  have c : g2.2.2.2 125 = g.2.2.2 125 := f2.c 125 (by decide) (by simp)
  unfold mwI spM mS
  rw [c]
  exact ⟨w2, y3.trans (f2.mono (by decide) (by simp)), y4, y5, y6⟩
theorem mwI.add {b g g2 : am_H} {u : Int → Int} {U V x s : Int} (r : rok a f B) (y : mwI b g a f u U V) (hr : Rch a f s) (hx : 0 ≤ x) (e : g2 = am_put g 125 s.toNat (g.2.2.2 125 s.toNat + x)) : mwI b g2 a f u (U + x) (V + x * u s) := by
  obtain ⟨y1, y3, y4, y5, y6⟩ := y
  have nb := (hr.ok r).1
  have es : ((s.toNat : Nat) : Int) = s := by omega
  have f2 : fr [114, 115, 125] [] g g2 := by rw [e]; exact fr.rfl.put (Or.inl (by decide))
  have p1 := mS_put (u := fun _ => 1) (by omega) e
  have p2 := mS_put (u := u) (by omega) e
  refine ⟨by rw [e]; exact y1.pa (by decide +kernel), y3.trans f2, fun n hn => ?_, ?_, ?_⟩
  · rw [e]
    simp only [put_at, true_and]
    by_cases q : n = s.toNat
    · rw [if_pos q]
      have := (y4 s.toNat (by omega)).1
      exact ⟨by omega, fun _ => by rw [q, es]; exact hr⟩
    · rw [if_neg q]; exact y4 n hn
  · rw [p1, show g.2.2.2 125 s.toNat + x - g.2.2.2 125 s.toNat = x by omega, Int.mul_one]
    omega
  · rw [p2, show g.2.2.2 125 s.toNat + x - g.2.2.2 125 s.toNat = x by omega, y6, es]
end LX
section LM2
variable {scr : Nat × (Nat → Int)} {d : Nat} {h : am_H} {Q : Option am_V → am_H → Prop} {a : Nat → Int} {f : Nat → (Nat → Int) → Int} {B md : Int}
theorem k_lik_67 {b : am_H} {x1 x2 st M U V : Int} {u : Int → Int} (hs : am_sc scr) (r : rok a f B) (ba : b.2.2.2 110 = a) (hr : Rch a f st) (ho : ¬ ovT a st) (hM : b.2.2.2 124 st.toNat = M) (hM0 : 0 ≤ M) (hU : 0 ≤ U ∧ U + 10 * M < 1000000000000) (K : ∀ g, mwI b g a f u (U + 10 * M) (V + M * (sumZ (fun s => u (beatS a f (a 28) st (s : Int))) (a 4).toNat + (10 - a 4) * u (beatS a f (a 28) st (-1)))) → am_R (am_prog scr) (d + 5) f_M_laysLikely 13 [some (.inr (.inr ((109 : Nat) : Int))), some (.inl (x1)), some (.inl (x2)), some (.inl (st + 1)), none] [] g Q) : ∀ (m s : Nat) (g : am_H), (s : Int) + m = a 4 → mwI b g a f u (U + s * M) (V + M * sumZ (fun s => u (beatS a f (a 28) st (s : Int))) s) → am_R (am_prog scr) (d + 5) f_M_laysLikely 67 [some (.inr (.inr ((109 : Nat) : Int))), some (.inl (x1)), some (.inl (x2)), some (.inl (st)), some (.inl ((s : Int)))] [] g Q := by
  have h4 := r.1.1
  have so := hr.ok r
  have sb := so.1
  have rs : ∀ s : Int, -1 ≤ s → s < a 4 → Rch a f (beatS a f (a 28) st s) := by
    intro s h1 h2
    have := hr.step (e := s + 1) ho ⟨by omega, by omega⟩
    unfold Tr at this
    rw [show s + 1 - 1 = s by omega] at this
    exact this
  intro m
  induction m with
  | zero =>
    intro s g hsm y
    have ga : g.2.2.2 110 = a := (y.2.1.c 110 (by decide) (by simp)).trans ba
    have sm0 : 0 ≤ (s : Int) * M := Int.mul_nonneg (by omega) hM0
    have sm : (s : Int) * M + (10 - a 4) * M = 10 * M := by rw [← Int.add_mul]; congr 1; omega
    have tm0 : 0 ≤ (10 - a 4) * M := Int.mul_nonneg (by omega) hM0
    refine w_M_laysLikely_67 hs y.1 ?_
    rw [ga]
    refine ⟨fun _ => ?_, fun c => by omega⟩
    refine k_beatToT hs y.1 ga r so ho (fun g1 w1 f1 => ⟨_, rfl, w1, ?_⟩)
    have y1 := y.keep w1 f1
    have tr := rs (-1) (by omega) (by omega)
    have tb := (tr.ok r).1
    have eM : g1.2.2.2 124 st.toNat = M := by rw [y1.2.1.c 124 (by decide) (by simp)]; exact hM
    have ga1 : g1.2.2.2 110 = a := (y1.2.1.c 110 (by decide) (by simp)).trans ba
    have el := y1.el (n := (beatS a f (a 28) st (-1)).toNat) (by omega)
    rw [eM, ga1, am_w_id (x := 10 - a 4) (by omega) (by omega), am_W_id (x := (10 - a 4) * M) (by omega) (by omega)]
    refine ⟨tb, sb, tb, fun h6 e6 q hq => ?_⟩
    rw [am_W_id (by omega) (by omega)] at e6
    rw [am_w_id (by omega) (by omega)] at hq
    subst hq
    have y2 := y1.add r tr tm0 e6
    refine K h6 ?_
    obtain ⟨z1, z3, z4, z5, z6⟩ := y2
    refine ⟨z1, z3, z4, by omega, ?_⟩
    rw [z6, show (a 4).toNat = s by omega, Int.mul_add]
    rw [show M * ((10 - a 4) * u (beatS a f (a 28) st (-1))) = (10 - a 4) * M * u (beatS a f (a 28) st (-1)) by rw [← Int.mul_assoc, Int.mul_comm M]]
    omega
  | succ m ih =>
    intro s g hsm y
    have ga : g.2.2.2 110 = a := (y.2.1.c 110 (by decide) (by simp)).trans ba
    have sm0 : 0 ≤ (s : Int) * M := Int.mul_nonneg (by omega) hM0
    have sm1 : (s : Int) * M ≤ 9 * M := Int.mul_le_mul_of_nonneg_right (by omega) hM0
    refine w_M_laysLikely_67 hs y.1 ?_
    rw [ga]
    refine ⟨fun c => by omega, fun _ => ?_⟩
    refine k_beatToT hs y.1 ga r so ho (fun g1 w1 f1 => ⟨_, rfl, w1, ?_⟩)
    have y1 := y.keep w1 f1
    have tr := rs (s : Int) (by omega) (by omega)
    have tb := (tr.ok r).1
    have eM : g1.2.2.2 124 st.toNat = M := by rw [y1.2.1.c 124 (by decide) (by simp)]; exact hM
    have el := y1.el (n := (beatS a f (a 28) st (s : Int)).toNat) (by omega)
    rw [eM]
    refine ⟨tb, sb, tb, fun h6 e6 q hq => ?_⟩
    rw [am_W_id (by omega) (by omega)] at e6
    rw [am_w_id (by omega) (by omega)] at hq
    obtain rfl : q = ((s + 1 : Nat) : Int) := by omega
    have y2 := y1.add r tr hM0 e6
    refine ih (s + 1) h6 (by omega) ?_
    obtain ⟨z1, z3, z4, z5, z6⟩ := y2
    refine ⟨z1, z3, z4, ?_, ?_⟩
    · rw [show ((s + 1 : Nat) : Int) * M = (s : Int) * M + M by rw [Int.natCast_add, Int.add_mul]; simp]
      omega
    · rw [z6, sumZ_succ, Int.mul_add]
      omega
theorem k_lik_13 {b : am_H} {x1 x2 : Int} {j : Nat} (hs : am_sc scr) (r : rok a f B) (ba : b.2.2.2 110 = a) (sp : spM b 124 a f) (hT : mS b 124 (fun _ => 1) ≤ 20000000) (K : ∀ g, mwI b g a f (lW a f md j) (10 * mS b 124 (fun _ => 1)) (mS b 124 (lW a f md (j + 1))) → am_R (am_prog scr) (d + 4) f_M_isThen 0 [some (.inr (.inr ((109 : Nat) : Int))), none] [] g (fun v g1 => v = none ∧ wf g1 ∧ (∀ y2 : Int, y2 = am_w (x2 + 1) → (am_R (am_prog scr) (d + 5) f_M_laysLikely 6 [some (.inr (.inr ((109 : Nat) : Int))), some (.inl (x1)), some (.inl (y2)), none, none] [] g1 Q)))) : ∀ (m k : Nat) (g : am_H), k + m = 360 → mwI b g a f (lW a f md j) (10 * sumZ (fun n => b.2.2.2 124 n * 1) k) (sumZ (fun n => b.2.2.2 124 n * lW a f md (j + 1) (n : Int)) k) → am_R (am_prog scr) (d + 5) f_M_laysLikely 13 [some (.inr (.inr ((109 : Nat) : Int))), some (.inl (x1)), some (.inl (x2)), some (.inl ((k : Int))), none] [] g Q := by
  have nn : ∀ i, i < 360 → 0 ≤ (fun n => b.2.2.2 124 n * 1) i := fun i hi => by
    show 0 ≤ b.2.2.2 124 i * 1
    have := (sp i hi).1; omega
  intro m
  induction m with
  | zero =>
    intro k g hk y
    refine w_M_laysLikely_13 hs y.1 ⟨fun _ => K g ?_, fun c => by omega⟩
    rw [show k = 360 by omega] at y
    exact y
  | succ m ih =>
    intro k g hk y
    have ga : g.2.2.2 110 = a := (y.2.1.c 110 (by decide) (by simp)).trans ba
    have gM : g.2.2.2 124 = b.2.2.2 124 := y.2.1.c 124 (by decide) (by simp)
    have s0 := sumZ_nn (n := k) (fun i hi => nn i (by omega))
    have s1 := sumZ_mono (k := k + 1) nn (by omega)
    rw [sumZ_succ] at s1
    rw [mS_1] at hT
    have M0 := (sp k (by omega)).1
    refine w_M_laysLikely_13 hs y.1 ⟨fun c => by omega, fun _ => ⟨by omega, ?_⟩⟩
    rw [gM, Int.toNat_natCast]
    refine ⟨fun c => ?_, fun c q hq => ?_⟩
    · have hr := (sp k (by omega)).2 c
      have so := hr.ok r
      refine k_isOverT hs y.1 ga so.1 ⟨_, rfl, y.1, fun c2 => ?_, fun c2 => ⟨by omega, by omega, by omega, fun h9 e9 q hq => ?_⟩⟩
      · rw [i0] at c2
        refine k_lik_67 (b := b) (u := lW a f md j) (M := b.2.2.2 124 k) (U := 10 * sumZ (fun n => b.2.2.2 124 n * 1) k) (V := sumZ (fun n => b.2.2.2 124 n * lW a f md (j + 1) (n : Int)) k) hs r ba hr c2 (by rw [Int.toNat_natCast]) M0 (by omega) (fun g2 y2 => ?_) (a 4).toNat 0 g (by have := r.1.1; omega) ?_
        · rw [show (k : Int) + 1 = ((k + 1 : Nat) : Int) by omega]
          refine ih (k + 1) g2 (by omega) ?_
          obtain ⟨z1, z3, z4, z5, z6⟩ := y2
          refine ⟨z1, z3, z4, by rw [sumZ_succ]; omega, ?_⟩
          rw [z6, sumZ_succ]
          simp only [lW]
          rw [if_neg c2]
        · obtain ⟨z1, z3, z4, z5, z6⟩ := y
          exact ⟨z1, z3, z4, by rw [show ((0 : Nat) : Int) = 0 from rfl, Int.zero_mul, Int.add_zero]; exact z5, by rw [z6]; simp [sumZ]⟩
      · rw [i0, Decidable.not_not] at c2
        have el := y.el (n := k) (by omega)
        rw [gM, am_W_id (x := 10 * b.2.2.2 124 k) (by omega) (by omega), am_W_id (by omega) (by omega)] at e9
        rw [am_w_id (by omega) (by omega)] at hq
        obtain rfl : q = ((k + 1 : Nat) : Int) := by omega
        have y2 := y.add (g2 := h9) r (s := (k : Int)) (x := 10 * b.2.2.2 124 k) hr (by omega) (by rw [Int.toNat_natCast]; exact e9)
        refine ih (k + 1) h9 (by omega) ?_
        obtain ⟨z1, z3, z4, z5, z6⟩ := y2
        refine ⟨z1, z3, z4, by rw [sumZ_succ]; omega, ?_⟩
        rw [z6, sumZ_succ]
        simp only [lW]
        rw [if_pos c2, Int.mul_comm 10 (b.2.2.2 124 k), Int.mul_assoc]
    · rw [am_w_id (by omega) (by omega)] at hq
      obtain rfl : q = ((k + 1 : Nat) : Int) := by omega
      refine ih (k + 1) g (by omega) ?_
      obtain ⟨z1, z3, z4, z5, z6⟩ := y
      refine ⟨z1, z3, z4, by rw [sumZ_succ]; omega, ?_⟩
      rw [z6, sumZ_succ, c]
      simp
theorem k_laysLikely {nn : Nat} (hs : am_sc scr) (hw : wf h) (ha : h.2.2.2 110 = a) (r : rok a f B) (hn : nn ≤ 7) (H : ∀ g, wf g → fr [114, 115, 124, 125] [] h g → spM g 124 a f → mS g 124 (fun _ => 1) ≤ (10 : Int) ^ nn → mS g 124 (lW a f md 0) = lW a f md nn (stA a) → Q none g) : am_R (am_prog scr) (d + 5) f_M_laysLikely 0 [some (.inr (.inr ((109 : Nat) : Int))), some (.inl ((nn : Int))), none, none, none] [] h Q := by
  refine w_M_laysLikely_0 hs hw ?_
  refine k_beginsMany hs hw ha r (fun g1 w1 f1 e1 => ⟨rfl, w1, ?_⟩)
  have lp : ∀ (m i : Nat) (g : am_H), i + m = nn → wf g → g.2.2.2 110 = a → fr [114, 115, 124, 125] [] h g → spM g 124 a f → (∀ n, n < 360 → g.2.2.2 125 n = 0) → mS g 124 (fun _ => 1) ≤ (10 : Int) ^ i → mS g 124 (lW a f md m) = lW a f md nn (stA a) → am_R (am_prog scr) (d + 5) f_M_laysLikely 6 [some (.inr (.inr ((109 : Nat) : Int))), some (.inl ((nn : Int))), some (.inl ((i : Int))), none, none] [] g Q := by
    intro m
    induction m with
    | zero =>
      intro i g hi wg ag fg sp z tg vg
      rw [show i = nn by omega] at tg
      exact w_M_laysLikely_6 hs wg ⟨fun _ => H g wg fg sp tg vg, fun c => by omega⟩
    | succ m ih =>
      intro i g hi wg ag fg sp z tg vg
      have p10 := pw10 i (by omega)
      refine w_M_laysLikely_6 hs wg ⟨fun c => by omega, fun _ => ?_⟩
      refine k_lik_13 (b := g) (j := m) (md := md) hs r ag sp (by omega) (fun g2 y2 => ?_) 360 0 g rfl ⟨wg, fr.rfl, fun n hn => ⟨by rw [z n hn]; omega, fun q => absurd (z n hn) q⟩, ?_, ?_⟩
      · obtain ⟨z1, z3, z4, z5, z6⟩ := y2
        refine k_isThen hs z1 (fun g3 w3 f3 e3 => ⟨rfl, w3, fun y hy => ?_⟩)
        rw [am_w_id (by omega) (by omega)] at hy
        obtain rfl : y = ((i + 1 : Nat) : Int) := by omega
        have tr : ∀ u, mS g3 124 u = mS g2 125 u := by
          intro u
          unfold mS
          refine sumZ_congr (fun j hj => ?_)
          show g3.2.2.2 124 j * _ = _
          rw [(e3 j hj).1]
        refine ih (i + 1) g3 (by omega) w3 ((f3.c 110 (by decide) (by simp)).trans ((z3.c 110 (by decide) (by simp)).trans ag)) ((fg.trans (z3.mono (by decide) (by simp))).trans (f3.mono (by decide) (by simp))) (fun n hn => ?_) (fun n hn => (e3 n hn).2) ?_ ?_
        · rw [(e3 n hn).1]; exact z4 n hn
        · rw [tr, Int.pow_succ]; omega
        · rw [tr, z6, vg]
      · have : mS g 125 (fun _ => 1) = 0 := by
          unfold mS
          refine sumZ_zero (fun n hn => ?_)
          rw [z n hn]; simp
        rw [this]; simp [sumZ]
      · have : ∀ u : Int → Int, mS g 125 u = 0 := fun u => sumZ_zero (fun n hn => by rw [z n hn]; simp)
        exact this _
  have st := r.st.1
  have one : ∀ u : Int → Int, mS g1 124 u = u (stA a) := by
    intro u
    unfold mS
    rw [sumZ_one (k := (stA a).toNat) (by omega) (fun i hi hne => ?_)]
    · show g1.2.2.2 124 (stA a).toNat * u ((stA a).toNat : Int) = _
      rw [(e1 _ (by omega)).1, if_pos (by omega), show (((stA a).toNat : Nat) : Int) = stA a by omega]; omega
    · show g1.2.2.2 124 i * u (i : Int) = 0
      rw [(e1 i hi).1, if_neg (by omega)]; simp
  have := lp nn 0 g1 (by omega) w1 ((f1.c 110 (by decide) (by simp)).trans ha) (f1.mono (by decide) (by simp)) (fun n hn => ?_) (fun n hn => (e1 n hn).2) (by rw [one]; simp) (one _)
  · exact this
  · rw [(e1 n hn).1]
    by_cases q : (n : Int) = stA a
    · rw [if_pos q]; exact ⟨by omega, fun _ => by rw [q]; exact Rch.zero⟩
    · rw [if_neg q]; exact ⟨by omega, fun c => absurd rfl c⟩
theorem k_wholeOf {nn : Nat} (hs : am_sc scr) (hw : wf h) (hn : nn ≤ 7) (H : Q (some (.inr (.inl ((10 : Int) ^ nn)))) h) : am_R (am_prog scr) d f_M_wholeOf 0 [some (.inl ((nn : Int))), none, none, none] [] h Q := by
  have lp : ∀ (m k : Nat), k + m = nn → am_R (am_prog scr) d f_M_wholeOf 4 [some (.inl ((nn : Int))), some (.inr (.inl ((10 : Int) ^ k))), none, some (.inl ((k : Int)))] [] h Q := by
    intro m
    induction m with
    | zero => intro k hk; rw [show k = nn by omega]; exact w_M_wholeOf_4 hs hw ⟨fun _ => H, fun c => by omega⟩
    | succ m ih =>
      intro k hk
      have p := pw10 k (by omega)
      refine w_M_wholeOf_4 hs hw ⟨fun c => by omega, fun _ y hy q hq => ?_⟩
      rw [am_W_id (by omega) (by omega), ← Int.pow_succ] at hy
      rw [am_w_id (by omega) (by omega)] at hq
      obtain rfl : q = ((k + 1 : Nat) : Int) := by omega
      subst hy
      exact ih (k + 1) (by omega)
  exact w_M_wholeOf_0 hs hw (lp nn 0 (by omega))
theorem half_lt {x y : Int} (hx : 0 ≤ x) (hy : 0 < y) (hr : 0 < x % y) : 2 * (y % (x % y)) < y := by
  have h1 := Int.emod_lt_of_pos x hy
  have h2 := Int.emod_lt_of_pos y hr
  have h3 := Int.emod_nonneg y (b := x % y) (by omega)
  have h4 := Int.mul_ediv_add_emod y (x % y)
  have h5 : 1 ≤ y / (x % y) := by
    have := Int.ediv_le_ediv hr (Int.le_of_lt h1)
    rw [Int.ediv_self (by omega)] at this
    exact this
  have h6 : (x % y) * 1 ≤ (x % y) * (y / (x % y)) := Int.mul_le_mul_of_nonneg_left h5 (by omega)
  omega
theorem k_common (hs : am_sc scr) (hw : wf h) : ∀ (n : Nat) (x y : Int) (d : Nat) (Q : Option am_V → am_H → Prop), 0 ≤ x → 0 ≤ y → y < ((2 ^ n : Nat) : Int) → Q (some (.inr (.inl (((Nat.gcd x.toNat y.toNat : Nat) : Int))))) h → am_R (am_prog scr) (d + (2 * n + 1)) f_M_common 0 [some (.inr (.inl (x))), none, some (.inr (.inl (y))), none] [] h Q := by
  intro n
  induction n with
  | zero =>
    intro x y d Q hx hy hy2 H
    have : y = 0 := by simp at hy2; omega
    subst this
    refine w_M_common_0 hs hw ⟨fun c => absurd rfl c, fun _ => ?_⟩
    rw [show ((0 : Int).toNat) = 0 from rfl, Nat.gcd_zero_right, show ((x.toNat : Nat) : Int) = x by omega] at H
    exact H
  | succ n ih =>
    intro x y d Q hx hy hy2 H
    rw [show d + (2 * (n + 1) + 1) = d + (2 * n + 1) + 1 + 1 by omega]
    refine w_M_common_0 hs hw ⟨fun c => ⟨c, ?_⟩, fun c => ?_⟩
    · have ypos : 0 < y := by omega
      have m1 := Int.emod_nonneg x (b := y) (by omega)
      rw [tm hx]
      rw [gcd_step hx ypos] at H
      refine w_M_common_0 hs hw ⟨fun c2 => ⟨c2, ?_⟩, fun c2 => ⟨_, rfl, hw, ?_⟩⟩
      · have hl := half_lt hx ypos (by omega)
        rw [tm hy]
        rw [gcd_step hy (by omega)] at H
        rw [Nat.pow_succ] at hy2
        exact ih _ _ d _ m1 (Int.emod_nonneg _ (by omega)) (by omega) ⟨_, rfl, hw, _, rfl, hw, H⟩
      · rw [c2, show ((0 : Int).toNat) = 0 from rfl, Nat.gcd_zero_right, show ((y.toNat : Nat) : Int) = y by omega] at H
        exact H
    · rw [c, show ((0 : Int).toNat) = 0 from rfl, Nat.gcd_zero_right, show ((x.toNat : Nat) : Int) = x by omega] at H
      exact H
theorem k_part {ab what : Int} {nn : Nat} (hs : am_sc scr) (hw : wf h) (hn : nn ≤ 7) (h0 : 0 ≤ ab ∧ ab ≤ 40000000) (H : Q (some (.inl (q_part ab nn what))) h) : am_R (am_prog scr) (d + 60) f_M_part 0 [some (.inr (.inl (ab))), none, some (.inr (.inl ((10 : Int) ^ nn))), none, some (.inl (what))] [] h Q := by
  have p := pw10 nn hn
  have gp : 0 < Nat.gcd ab.toNat ((10 : Int) ^ nn).toNat := Nat.gcd_pos_of_pos_right _ (by omega)
  have g2 : Nat.gcd ab.toNat ((10 : Int) ^ nn).toNat ≤ ((10 : Int) ^ nn).toNat := Nat.gcd_le_right _ (by omega)
  unfold q_part at H
  generalize hg : Nat.gcd ab.toNat ((10 : Int) ^ nn).toNat = gg at gp g2 H
  have dv : ∀ z : Int, 0 ≤ z → z ≤ 40000000 → am_w (am_W (z.tdiv ((gg : Nat) : Int))) = z / ((gg : Nat) : Int) := by
    intro z z0 z1
    rw [td z0]
    have d0 : 0 ≤ z / ((gg : Nat) : Int) := Int.ediv_nonneg z0 (by omega)
    have d1 : z / ((gg : Nat) : Int) ≤ z := Int.ediv_le_self _ z0
    rw [am_W_id (by omega) (by omega), am_w_id (by omega) (by omega)]
  have p24 : ((2 ^ 24 : Nat) : Int) = 16777216 := by decide
  refine w_M_part_0 hs hw ⟨fun c => ?_, fun c => ?_⟩
  · refine k_common hs hw 24 ab ((10 : Int) ^ nn) (d + 10) _ h0.1 (by omega) (by omega) ⟨_, rfl, hw, ?_⟩
    rw [hg]
    refine ⟨by omega, ?_⟩
    rw [dv _ (by omega) (by omega)]
    rw [if_neg c] at H
    exact H
  · refine k_common hs hw 24 ab ((10 : Int) ^ nn) (d + 10) _ h0.1 (by omega) (by omega) ⟨_, rfl, hw, ?_⟩
    rw [hg]
    refine ⟨by omega, ?_⟩
    rw [dv _ h0.1 h0.2]
    rw [if_pos c] at H
    exact H
theorem k_noChance {n what : Int} (hs : am_sc scr) (hw : wf h) (H : Q (some (.inl (if 0 ≤ what ∧ what ≤ 1 then (if 0 ≤ n ∧ n ≤ 7 then 0 else -3) else -2))) h) : am_R (am_prog scr) (d + 1) f_M_noChance 0 [some (.inr (.inr ((109 : Nat) : Int))), some (.inl (n)), some (.inl (what))] [] h Q := by
  refine w_M_noChance_0 hs hw ?_
  refine k_within hs hw ⟨_, rfl, hw, fun c => ?_, fun c => ?_⟩
  · rw [i0, Decidable.not_not] at c
    rw [if_pos c] at H
    refine k_within hs hw ⟨_, rfl, hw, fun c2 => ?_, fun c2 => ?_⟩
    · rw [i0] at c2; rw [if_neg c2] at H; exact H
    · rw [i0, Decidable.not_not] at c2; rw [if_pos c2] at H; exact H
  · rw [i0] at c; rw [if_neg c] at H; exact H
/-- what chance and mean answer -/
def q_lots (a : Nat → Int) (f : Nat → (Nat → Int) → Int) (md n what : Int) : Int := if 0 ≤ what ∧ what ≤ 1 then (if 0 ≤ n ∧ n ≤ 7 then q_part (lW a f md n.toNat (stA a)) n.toNat what else -3) else -2
theorem lot_b (r : rok a f B) {g : am_H} {nn : Nat} (hn : nn ≤ 7) (hmd : md = 0 ∨ md = 1) (sp : spM g 124 a f) (tg : mS g 124 (fun _ => 1) ≤ (10 : Int) ^ nn) : ∀ k, k ≤ 360 → 0 ≤ sumZ (fun n => g.2.2.2 124 n * lW a f md 0 (n : Int)) k ∧ sumZ (fun n => g.2.2.2 124 n * lW a f md 0 (n : Int)) k ≤ 40000000 := by
  intro k hk
  have p := pw10 nn hn
  have c04 : ∀ n : Nat, n < 360 → 0 ≤ lW a f md 0 (n : Int) ∧ lW a f md 0 (n : Int) ≤ 4 := by
    intro n hn
    have ab := actI_b (x := (n : Int)) (by omega)
    simp only [lW]
    split
    · split <;> omega
    · omega
  have tm : ∀ n : Nat, n < 360 → 0 ≤ g.2.2.2 124 n * lW a f md 0 (n : Int) ∧ g.2.2.2 124 n * lW a f md 0 (n : Int) ≤ g.2.2.2 124 n * 4 := by
    intro n hn
    have c := c04 n hn
    have s := (sp n hn).1
    exact ⟨Int.mul_nonneg s c.1, Int.mul_le_mul_of_nonneg_left c.2 s⟩
  have n1 := sumZ_nn (u := fun n => g.2.2.2 124 n * lW a f md 0 (n : Int)) (n := k) (fun i hi => (tm i (by omega)).1)
  have n2 := sumZ_le (u := fun n => g.2.2.2 124 n * lW a f md 0 (n : Int)) (v := fun n => g.2.2.2 124 n * 4) (n := k) (fun i hi => (tm i (by omega)).2)
  have n3 := sumZ_mono (u := fun n => g.2.2.2 124 n * 4) (k := k) (n := 360) (fun i hi => by
    show 0 ≤ g.2.2.2 124 i * 4
    have := (sp i hi).1; omega) hk
  have n4 : ∀ m : Nat, sumZ (fun n => g.2.2.2 124 n * 4) m = 4 * sumZ (fun n => g.2.2.2 124 n * 1) m := by
    intro m
    induction m with
    | zero => rfl
    | succ m ih => rw [sumZ_succ, sumZ_succ, ih]; omega
  rw [n4 360] at n3
  rw [mS_1] at tg
  omega
theorem k_Mchance {n what : Int} (hs : am_sc scr) (hw : wf h) (ha : h.2.2.2 110 = a) (r : rok a f B) (H : ∀ g, wf g → fr [114, 115, 124, 125] [(109, 0)] h g → Q (some (.inl (q_lots a f 0 n what))) g) : am_R (am_prog scr) (d + 70) f_M_chance 0 [some (.inr (.inr ((109 : Nat) : Int))), some (.inl (n)), some (.inl (what)), none, none, none, none] [] h Q := by
  refine w_M_chance_0 hs hw (fun g1 q1 => ?_)
  have w1 : wf g1 := by rw [q1]; exact (put0 hw).1
  have f0 : fr [] [(109, 0)] h g1 := by rw [q1]; exact (put0 hw).2
  have a1 : g1.2.2.2 110 = a := (f0.c 110 (by simp) (by decide)).trans ha
  have f1 : fr [114, 115, 124, 125] [(109, 0)] h g1 := f0.mono (by simp) (by decide)
  unfold q_lots at H
  refine k_noChance hs w1 ⟨_, rfl, w1, fun c => ?_, fun c => ?_⟩
  · have c1 : 0 ≤ what ∧ what ≤ 1 := by
      apply Decidable.byContradiction; intro q; rw [if_neg q] at c; omega
    rw [if_pos c1] at c H
    have c2 : 0 ≤ n ∧ n ≤ 7 := by
      apply Decidable.byContradiction; intro q; rw [if_neg q] at c; omega
    rw [if_pos c2] at H
    obtain ⟨nn, rfl⟩ : ∃ nn : Nat, n = nn := ⟨n.toNat, by omega⟩
    rw [Int.toNat_natCast] at H
    refine k_laysLikely (md := 0) hs w1 a1 r (by omega) (fun g wg fg sp tg vg => ⟨rfl, wg, ?_⟩)
    have ag : g.2.2.2 110 = a := (fg.c 110 (by decide) (by simp)).trans a1
    have bnd := lot_b (md := 0) r (by omega) (Or.inl rfl) sp tg
    generalize hz : (if 0 ≤ what ∧ what ≤ 1 then (if 0 ≤ ((nn : Nat) : Int) ∧ ((nn : Nat) : Int) ≤ 7 then (0 : Int) else -3) else -2) = zz
    have lp : ∀ (m k : Nat), k + m = 360 → am_R (am_prog scr) (d + 70) f_M_chance 29 [some (.inr (.inr ((109 : Nat) : Int))), some (.inl ((nn : Int))), some (.inl (what)), some (.inl (zz)), some (.inr (.inl (sumZ (fun n => g.2.2.2 124 n * lW a f 0 0 (n : Int)) k))), none, some (.inl ((k : Int)))] [] g Q := by
      intro m
      induction m with
      | zero =>
        intro k hk
        rw [show k = 360 by omega]
        refine w_M_chance_29 hs wg ⟨fun _ => ?_, fun c => by omega⟩
        refine k_wholeOf hs wg (by omega) ⟨_, rfl, wg, ?_⟩
        refine k_part hs wg (by omega) (bnd 360 (by omega)) ⟨_, rfl, wg, ?_⟩
        have vg : sumZ (fun n => g.2.2.2 124 n * lW a f 0 0 (n : Int)) 360 = lW a f 0 nn (stA a) := vg
        rw [vg]
        exact H g wg (f1.trans (fg.mono (by decide) (by simp)))
      | succ m ih =>
        intro k hk
        have b0 := bnd k (by omega)
        have b1 := bnd (k + 1) (by omega)
        rw [sumZ_succ] at b1
        have e0 : lW a f 0 0 (k : Int) = if actI (k : Int) = a 3 then 1 else 0 := by simp [lW]
        have nxt : ∀ v, v = sumZ (fun n => g.2.2.2 124 n * lW a f 0 0 (n : Int)) (k + 1) → ∀ y, y = am_w ((k : Int) + 1) → am_R (am_prog scr) (d + 70) f_M_chance 29 [some (.inr (.inr ((109 : Nat) : Int))), some (.inl ((nn : Int))), some (.inl (what)), some (.inl (zz)), some (.inr (.inl (v))), none, some (.inl (y))] [] g Q := by
          intro v hv y hy
          rw [am_w_id (by omega) (by omega)] at hy
          obtain rfl : y = ((k + 1 : Nat) : Int) := by omega
          rw [hv]
          exact ih (k + 1) (by omega)
        refine w_M_chance_29 hs wg ⟨fun c => by omega, fun _ => ?_⟩
        refine k_hasEnded hs wg (by omega) ⟨_, rfl, wg, ?_⟩
        rw [ag]
        refine ⟨fun c3 y7 h7 y8 h8 => ?_, fun c3 => ⟨by omega, fun y10 h10 y11 h11 => ?_⟩⟩
        · rw [i0] at c3
          rw [if_neg c3] at e0
          rw [am_W_id (by omega) (by omega)] at h7
          refine nxt y7 ?_ y8 h8
          rw [sumZ_succ, e0]
          omega
        · rw [i0, Decidable.not_not] at c3
          rw [if_pos c3] at e0
          rw [e0] at b1
          rw [Int.toNat_natCast, am_W_id (by omega) (by omega)] at h10
          refine nxt y10 ?_ y11 h11
          rw [sumZ_succ, e0]
          omega
    exact lp 360 0 rfl
  · have HH := H g1 w1 f1
    by_cases c1 : 0 ≤ what ∧ what ≤ 1
    · rw [if_pos c1] at c HH ⊢
      by_cases c2 : 0 ≤ n ∧ n ≤ 7
      · rw [if_pos c2] at c; omega
      · rw [if_neg c2] at HH ⊢; exact HH
    · rw [if_neg c1] at HH ⊢; exact HH
theorem k_Mmean {n what : Int} (hs : am_sc scr) (hw : wf h) (ha : h.2.2.2 110 = a) (r : rok a f B) (H : ∀ g, wf g → fr [114, 115, 124, 125] [(109, 0)] h g → Q (some (.inl (q_lots a f 1 n what))) g) : am_R (am_prog scr) (d + 70) f_M_mean 0 [some (.inr (.inr ((109 : Nat) : Int))), some (.inl (n)), some (.inl (what)), none, none, none, none] [] h Q := by
  refine w_M_mean_0 hs hw (fun g1 q1 => ?_)
  have w1 : wf g1 := by rw [q1]; exact (put0 hw).1
  have f0 : fr [] [(109, 0)] h g1 := by rw [q1]; exact (put0 hw).2
  have a1 : g1.2.2.2 110 = a := (f0.c 110 (by simp) (by decide)).trans ha
  have f1 : fr [114, 115, 124, 125] [(109, 0)] h g1 := f0.mono (by simp) (by decide)
  unfold q_lots at H
  refine k_noChance hs w1 ⟨_, rfl, w1, fun c => ?_, fun c => ?_⟩
  · have c1 : 0 ≤ what ∧ what ≤ 1 := by
      apply Decidable.byContradiction; intro q; rw [if_neg q] at c; omega
    rw [if_pos c1] at c H
    have c2 : 0 ≤ n ∧ n ≤ 7 := by
      apply Decidable.byContradiction; intro q; rw [if_neg q] at c; omega
    rw [if_pos c2] at H
    obtain ⟨nn, rfl⟩ : ∃ nn : Nat, n = nn := ⟨n.toNat, by omega⟩
    rw [Int.toNat_natCast] at H
    refine k_laysLikely (md := 1) hs w1 a1 r (by omega) (fun g wg fg sp tg vg => ⟨rfl, wg, ?_⟩)
    have ag : g.2.2.2 110 = a := (fg.c 110 (by decide) (by simp)).trans a1
    have bnd := lot_b (md := 1) r (by omega) (Or.inr rfl) sp tg
    generalize hz : (if 0 ≤ what ∧ what ≤ 1 then (if 0 ≤ ((nn : Nat) : Int) ∧ ((nn : Nat) : Int) ≤ 7 then (0 : Int) else -3) else -2) = zz
    have lp : ∀ (m k : Nat), k + m = 360 → am_R (am_prog scr) (d + 70) f_M_mean 29 [some (.inr (.inr ((109 : Nat) : Int))), some (.inl ((nn : Int))), some (.inl (what)), some (.inl (zz)), some (.inr (.inl (sumZ (fun n => g.2.2.2 124 n * lW a f 1 0 (n : Int)) k))), none, some (.inl ((k : Int)))] [] g Q := by
      intro m
      induction m with
      | zero =>
        intro k hk
        rw [show k = 360 by omega]
        refine w_M_mean_29 hs wg ⟨fun _ => ?_, fun c => by omega⟩
        refine k_wholeOf hs wg (by omega) ⟨_, rfl, wg, ?_⟩
        refine k_part hs wg (by omega) (bnd 360 (by omega)) ⟨_, rfl, wg, ?_⟩
        have vg : sumZ (fun n => g.2.2.2 124 n * lW a f 1 0 (n : Int)) 360 = lW a f 1 nn (stA a) := vg
        rw [vg]
        exact H g wg (f1.trans (fg.mono (by decide) (by simp)))
      | succ m ih =>
        intro k hk
        have b0 := bnd k (by omega)
        have b1 := bnd (k + 1) (by omega)
        rw [sumZ_succ] at b1
        have e0 : lW a f 1 0 (k : Int) = actI (k : Int) := by simp [lW]
        rw [e0] at b1
        refine w_M_mean_29 hs wg ⟨fun c => by omega, fun _ => ⟨by omega, ?_⟩⟩
        refine k_actIn hs wg (by omega) ⟨_, rfl, wg, fun y8 h8 y hy => ?_⟩
        have p0 := Int.mul_nonneg (sp k (by omega)).1 (actI_b (x := (k : Int)) (by omega)).1
        rw [Int.toNat_natCast, am_W_id (x := g.2.2.2 124 k * actI (k : Int)) (by omega) (by omega), am_W_id (by omega) (by omega)] at h8
        rw [am_w_id (by omega) (by omega)] at hy
        obtain rfl : y = ((k + 1 : Nat) : Int) := by omega
        have := ih (k + 1) (by omega)
        rw [sumZ_succ, e0, ← h8] at this
        exact this
    exact lp 360 0 rfl
  · have HH := H g1 w1 f1
    by_cases c1 : 0 ≤ what ∧ what ≤ 1
    · rw [if_pos c1] at c HH ⊢
      by_cases c2 : 0 ≤ n ∧ n ≤ 7
      · rw [if_pos c2] at c; omega
      · rw [if_neg c2] at HH ⊢; exact HH
    · rw [if_neg c1] at HH ⊢; exact HH
end LM2
