/-! lots: the class -/
def loN (a : Nat → Int) (f : Nat → (Nat → Int) → Int) (md : Int) (j n : Nat) : Int := if n < 180 then lW a f md j (stN n) else (10 : Int) ^ j * (if md = 0 then 0 else (n : Int) - 180)
section LC
variable {scr : Nat × (Nat → Int)} {d : Nat} {h : am_H} {Q : Option am_V → am_H → Prop} {W : Wd} {ser : Nat} {a : Nat → Int} {f : Nat → (Nat → Int) → Int} {B md : Int} {c t : Nat}
theorem loN_node {st : Int} (so : stOk a st) (j : Nat) : loN a f md j (nodeS st).toNat = lW a f md j st := by
  unfold loN
  by_cases q : st % 2 = 1
  · have no := nodeS_o so.1 q
    have na := so.2.2.2.2 q
    rw [if_neg (by omega)]
    have ov : ovT a st := Or.inr q
    have ea : (((nodeS st).toNat : Nat) : Int) - 180 = actI st := by omega
    rw [ea]
    induction j with
    | zero =>
      simp only [lW]
      by_cases q2 : md = 0
      · rw [if_pos q2, if_pos q2, if_neg (by omega)]; simp
      · rw [if_neg q2, if_neg q2]; simp
    | succ j ih =>
      simp only [lW]
      rw [if_pos ov, ← ih, Int.pow_succ, Int.mul_comm ((10 : Int) ^ j) 10, Int.mul_assoc]
  · have ne := nodeS_e so.1 q
    rw [if_pos (by omega), show (((nodeS st).toNat : Nat) : Int) = nodeS st by omega, ne.2.1]
theorem k_dl_33 {b : am_H} {st M U V : Int} {u : Nat → Int} (hs : am_sc scr) (r : rok a f B) (hc : wyC c t) (b1 : b.2.2.2 43 1 = (c : Int)) (b2 : b.2.2.2 43 2 = (t : Int)) (hr : Rch a f st) (ho : ¬ ovT a st) (hM : b.2.2.2 c (nodeS st).toNat = M) (hM0 : 0 ≤ M) (hU : 0 ≤ U ∧ U + 10 * M < 1000000000000) (K : ∀ g, nwI b g t a f u (U + 10 * M) (V + M * (sumZ (fun s => u (nodeS (beatS a f (a 28) st (s : Int))).toNat) (a 4).toNat + (10 - a 4) * u (nodeS (beatS a f (a 28) st (-1))).toNat)) → Q none g) : ∀ (m s : Nat) (g : am_H), (s : Int) + m = a 4 → nwI b g t a f u (U + s * M) (V + M * sumZ (fun s => u (nodeS (beatS a f (a 28) st (s : Int))).toNat) s) → am_R (am_prog scr) (d + 2) f_Tally_drawLot 33 [some (.inr (.inr (((43) : Nat) : Int))), some (.inl (nodeS st)), some (.inl ((s : Int) + 1))] [] g Q := by
  have k := hc.k
  have h4 := r.1.1
  have so := hr.ok r
  have nb := on_144 r so ho
  have te : ∀ s : Int, Tr a f st (s + 1) = beatS a f (a 28) st s := by
    intro s; unfold Tr; rw [show s + 1 - 1 = s by omega]
  intro m
  induction m with
  | zero =>
    intro s g hsm y
    have sm0 : 0 ≤ (s : Int) * M := Int.mul_nonneg (by omega) hM0
    have sm : (s : Int) * M + (10 - a 4) * M = 10 * M := by rw [← Int.add_mul]; congr 1; omega
    have tm0 : 0 ≤ (10 - a 4) * M := Int.mul_nonneg (by omega) hM0
    have g1 : g.2.2.2 43 1 = (c : Int) := by rw [y.2.2.1.f 43 1 (by simp; omega) (by simp)]; exact b1
    have g2 : g.2.2.2 43 2 = (t : Int) := by rw [y.2.2.1.f 43 2 (by simp; omega) (by simp)]; exact b2
    have gM : g.2.2.2 c (nodeS st).toNat = M := by rw [y.2.2.1.f c _ (by simp; omega) (by simp)]; exact hM
    refine w_Tally_drawLot_33 hs y.1 ?_
    refine k_gSleepers hs y.1 y.2.1.1 ⟨_, rfl, y.1, fun _ => ?_, fun c => by omega⟩
    refine k_after hs y.1 y.2.1.2.2 r so ho (y.2.1.2.1.known r hr ho) (by omega) ⟨_, rfl, y.1, ?_⟩
    have tr := hr.step (e := 0) ho ⟨by omega, by omega⟩
    have t0 := te (-1)
    rw [show (-1 : Int) + 1 = 0 by omega] at t0
    rw [t0] at tr ⊢
    have nt := node_b (tr.ok r).1
    rw [g2, Int.toNat_natCast]
    refine ⟨y.1.a k.2.1.1 k.2.1.2.1 nt.1 nt.2, ?_⟩
    refine k_gSleepers hs y.1 y.2.1.1 ⟨_, rfl, y.1, ?_⟩
    rw [g1, Int.toNat_natCast, gM]
    have el := y.el (n := (nodeS (beatS a f (a 28) st (-1))).toNat) (by omega)
    rw [am_w_id (x := 10 - a 4) (by omega) (by omega), am_W_id (x := (10 - a 4) * M) (by omega) (by omega)]
    refine ⟨y.1.a k.1.1 k.1.2.1 (by omega) (by omega), y.1.a k.2.1.1 k.2.1.2.1 nt.1 nt.2, k.2.1.2.2, fun h10 e10 => ?_⟩
    rw [am_W_id (by omega) (by omega)] at e10
    have y2 := y.add r k.2.2.2.2 tr tm0 e10
    refine K h10 ?_
    obtain ⟨y1, y2, y3, y4, y5, y6⟩ := y2
    refine ⟨y1, y2, y3, y4, by omega, ?_⟩
    rw [y6, show (a 4).toNat = s by omega, Int.mul_add]
    rw [show M * ((10 - a 4) * u (nodeS (beatS a f (a 28) st (-1))).toNat) = (10 - a 4) * M * u (nodeS (beatS a f (a 28) st (-1))).toNat by rw [← Int.mul_assoc, Int.mul_comm M]]
    omega
  | succ m ih =>
    intro s g hsm y
    have sm0 : 0 ≤ (s : Int) * M := Int.mul_nonneg (by omega) hM0
    have sm1 : (s : Int) * M ≤ 9 * M := Int.mul_le_mul_of_nonneg_right (by omega) hM0
    have g1 : g.2.2.2 43 1 = (c : Int) := by rw [y.2.2.1.f 43 1 (by simp; omega) (by simp)]; exact b1
    have g2 : g.2.2.2 43 2 = (t : Int) := by rw [y.2.2.1.f 43 2 (by simp; omega) (by simp)]; exact b2
    have gM : g.2.2.2 c (nodeS st).toNat = M := by rw [y.2.2.1.f c _ (by simp; omega) (by simp)]; exact hM
    refine w_Tally_drawLot_33 hs y.1 ?_
    refine k_gSleepers hs y.1 y.2.1.1 ⟨_, rfl, y.1, fun c => by omega, fun _ => ?_⟩
    refine k_after hs y.1 y.2.1.2.2 r so ho (y.2.1.2.1.known r hr ho) (by omega) ⟨_, rfl, y.1, ?_⟩
    have tr := hr.step (e := (s : Int) + 1) ho ⟨by omega, by omega⟩
    rw [te] at tr ⊢
    have nt := node_b (tr.ok r).1
    rw [g2, g1, Int.toNat_natCast, Int.toNat_natCast, gM]
    have el := y.el (n := (nodeS (beatS a f (a 28) st (s : Int))).toNat) (by omega)
    refine ⟨y.1.a k.2.1.1 k.2.1.2.1 nt.1 nt.2, y.1.a k.1.1 k.1.2.1 (by omega) (by omega), y.1.a k.2.1.1 k.2.1.2.1 nt.1 nt.2, k.2.1.2.2, fun h10 e10 q hq => ?_⟩
    rw [am_W_id (by omega) (by omega)] at e10
    rw [am_w_id (by omega) (by omega)] at hq
    obtain rfl : q = ((s + 1 : Nat) : Int) + 1 := by omega
    have y2 := y.add r k.2.2.2.2 tr hM0 e10
    refine ih (s + 1) h10 (by omega) ?_
    obtain ⟨y1, y2, y3, y4, y5, y6⟩ := y2
    refine ⟨y1, y2, y3, y4, ?_, ?_⟩
    · rw [show ((s + 1 : Nat) : Int) * M = (s : Int) * M + M by rw [Int.natCast_add, Int.add_mul]; simp]
      omega
    · rw [y6, sumZ_succ, Int.mul_add]
      omega
theorem k_dls_21 {b : am_H} {x1 x2 : Int} {j : Nat} (hs : am_sc scr) (r : rok a f B) (hc : wyC c t) (b1 : b.2.2.2 43 1 = (c : Int)) (b2 : b.2.2.2 43 2 = (t : Int)) (sp : spN b c a f) (hT : nS b c (fun _ => 1) ≤ 20000000) (K : ∀ g, nwI b g t a f (loN a f md j) (10 * nS b c (fun _ => 1)) (nS b c (loN a f md (j + 1))) → am_R (am_prog scr) (d + 2) f_Tally_endBeat 0 [some (.inr (.inr (((43) : Nat) : Int))), none] [] g (fun v g1 => v = none ∧ wf g1 ∧ (∀ y2 : Int, y2 = am_w (x2 + 1) → (am_R (am_prog scr) (d + 3) f_Tally_drawLots 6 [some (.inr (.inr (((43) : Nat) : Int))), some (.inl (x1)), some (.inl (y2)), none] [] g1 Q)))) : ∀ (m k : Nat) (g : am_H), k + m = 185 → nwI b g t a f (loN a f md j) (10 * sumZ (fun n => b.2.2.2 c n * 1) k) (sumZ (fun n => b.2.2.2 c n * loN a f md (j + 1) n) k) → am_R (am_prog scr) (d + 3) f_Tally_drawLots 21 [some (.inr (.inr (((43) : Nat) : Int))), some (.inl (x1)), some (.inl (x2)), some (.inl ((k : Int)))] [] g Q := by
  have kc := hc.k
  have nn : ∀ i, i < 185 → 0 ≤ (fun n => b.2.2.2 c n * 1) i := fun i hi => by
    show 0 ≤ b.2.2.2 c i * 1
    have := (sp i hi).1; omega
  intro m
  induction m with
  | zero =>
    intro k g hk y
    refine w_Tally_drawLots_21 hs y.1 ⟨fun _ => K g ?_, fun c => by omega⟩
    rw [show k = 185 by omega] at y
    exact y
  | succ m ih =>
    intro k g hk y
    have g1 : g.2.2.2 43 1 = (c : Int) := by rw [y.2.2.1.f 43 1 (by simp; omega) (by simp)]; exact b1
    have g2 : g.2.2.2 43 2 = (t : Int) := by rw [y.2.2.1.f 43 2 (by simp; omega) (by simp)]; exact b2
    have gM : g.2.2.2 c k = b.2.2.2 c k := by rw [y.2.2.1.f c _ (by simp; omega) (by simp)]
    have s0 := sumZ_nn (n := k) (fun i hi => nn i (by omega))
    have s1 := sumZ_mono (k := k + 1) nn (by omega)
    rw [sumZ_succ] at s1
    rw [nS_1] at hT
    refine w_Tally_drawLots_21 hs y.1 ⟨fun c => by omega, fun _ => ?_⟩
    rw [g1, Int.toNat_natCast, Int.toNat_natCast, gM]
    refine ⟨y.1.a kc.1.1 kc.1.2.1 (by omega) (by omega), fun c1 q hq => ?_, fun c1 => ?_⟩
    · rw [am_w_id (by omega) (by omega)] at hq
      obtain rfl : q = ((k + 1 : Nat) : Int) := by omega
      refine ih (k + 1) g (by omega) ?_
      obtain ⟨y1, y2, y3, y4, y5, y6⟩ := y
      refine ⟨y1, y2, y3, y4, by rw [sumZ_succ]; omega, ?_⟩
      rw [y6, sumZ_succ, c1]; simp
    · obtain ⟨st, s2, s3⟩ := (sp k (by omega)).2 c1
      have so := s2.ok r
      have nb := node_b so.1
      have ek : (k : Int) = nodeS st := by omega
      have M0 := (sp k (by omega)).1
      have cn : loN a f md (j + 1) k = lW a f md (j + 1) st := by rw [s3]; exact loN_node so _
      have nxt : ∀ g2, nwI b g2 t a f (loN a f md j) (10 * sumZ (fun n => b.2.2.2 c n * 1) k + 10 * b.2.2.2 c k) (sumZ (fun n => b.2.2.2 c n * loN a f md (j + 1) n) k + b.2.2.2 c k * lW a f md (j + 1) st) → ∀ q, q = am_w (nodeS st + 1) → am_R (am_prog scr) (d + 3) f_Tally_drawLots 21 [some (.inr (.inr (((43) : Nat) : Int))), some (.inl (x1)), some (.inl (x2)), some (.inl (q))] [] g2 Q := by
        intro g2 y2 q hq
        rw [am_w_id (by omega) (by omega)] at hq
        obtain rfl : q = ((k + 1 : Nat) : Int) := by omega
        refine ih (k + 1) g2 (by omega) ?_
        obtain ⟨z1, z2, z3, z4, z5, z6⟩ := y2
        refine ⟨z1, z2, z3, z4, by rw [sumZ_succ]; omega, ?_⟩
        rw [z6, sumZ_succ, cn]
      rw [ek]
      refine w_Tally_drawLot_0 hs y.1 ?_
      refine k_gOn hs y.1 y.2.1.1 so ⟨_, rfl, y.1, fun c2 => ?_, fun c2 => ?_⟩
      · have ho : ¬ ovT a st := by
          intro q; rw [if_pos q] at c2; omega
        refine k_dl_33 (b := b) (u := loN a f md j) (M := b.2.2.2 c k) (U := 10 * sumZ (fun n => b.2.2.2 c n * 1) k) (V := sumZ (fun n => b.2.2.2 c n * loN a f md (j + 1) n) k) hs r hc b1 b2 s2 ho (by rw [← s3]) M0 (by omega) (fun g2 y2 => ⟨rfl, y2.1, nxt g2 ?_⟩) (a 4).toNat 0 g (by have := r.1.1; omega) ?_
        · obtain ⟨z1, z2, z3, z4, z5, z6⟩ := y
          refine ⟨z1, z2, z3, z4, by rw [show ((0 : Nat) : Int) = 0 from rfl, Int.zero_mul, Int.add_zero]; exact z5, by rw [z6]; simp [sumZ]⟩
        · obtain ⟨z1, z2, z3, z4, z5, z6⟩ := y2
          refine ⟨z1, z2, z3, z4, z5, ?_⟩
          rw [z6]
          simp only [lW]
          rw [if_neg ho]
          have te : ∀ s : Int, stOk a (beatS a f (a 28) st s) := by
            intro s
            have := Tr_ok (deed := s + 1) r so ho
            unfold Tr at this
            rw [show s + 1 - 1 = s by omega] at this
            exact this
          rw [loN_node (te (-1)), sumZ_congr (v := fun s => loN a f md j (nodeS (beatS a f (a 28) st (s : Int))).toNat) (u := fun s => lW a f md j (beatS a f (a 28) st (s : Int))) (fun i hi => loN_node (te _) j)]
      · have ho : ovT a st := by
          apply Decidable.byContradiction; intro q; rw [if_neg q] at c2; omega
        rw [g1, g2, Int.toNat_natCast, Int.toNat_natCast]
        have el := y.el (n := k) (by omega)
        refine ⟨y.1.a kc.2.1.1 kc.2.1.2.1 nb.1 nb.2, y.1.a kc.1.1 kc.1.2.1 nb.1 nb.2, y.1.a kc.2.1.1 kc.2.1.2.1 nb.1 nb.2, kc.2.1.2.2, fun h7 e7 => ?_⟩
        have e8 : h7 = am_put g t (nodeS st).toNat (g.2.2.2 t (nodeS st).toNat + 10 * b.2.2.2 c k) := by
          rw [e7, ← s3, gM, am_W_id (x := 10 * b.2.2.2 c k) (by omega) (by omega), am_W_id (by omega) (by omega)]
        have y2 := y.add (g2 := h7) r kc.2.2.2.2 s2 (by omega) e8
        refine ⟨rfl, y2.1, nxt h7 ?_⟩
        obtain ⟨z1, z2, z3, z4, z5, z6⟩ := y2
        refine ⟨z1, z2, z3, z4, z5, ?_⟩
        rw [z6, loN_node so]
        simp only [lW]
        rw [if_pos ho, Int.mul_comm 10 (b.2.2.2 c k), Int.mul_assoc]
theorem k_drawLots {nn : Nat} (hs : am_sc scr) (hw : wf h) (x : grP h a f) (r : rok a f B) (tl : tlI h) (hn : nn ≤ 7) (H : ∀ g c t, wyC c t → wf g → grP g a f → fr [44, 45] [(43, 1), (43, 2)] h g → tlI g → g.2.2.2 43 1 = (c : Int) → spN g c a f → nS g c (fun _ => 1) ≤ (10 : Int) ^ nn → nS g c (loN a f md 0) = lW a f md nn (stA a) → Q none g) : am_R (am_prog scr) (d + 3) f_Tally_drawLots 0 [some (.inr (.inr (((43) : Nat) : Int))), some (.inl ((nn : Int))), none, none] [] h Q := by
  obtain ⟨c, t, hc, e1, e2⟩ := tl.c
  have kc := hc.k
  refine w_Tally_drawLots_0 hs hw ?_
  refine k_tbegin hs hw x r hc e1 (fun g1 w1 x1 f1 ee => ⟨rfl, w1, ?_⟩)
  have fr1 : fr [44, 45] [(43, 1), (43, 2)] h g1 := f1.mono (by simp; omega) (by simp)
  have lp : ∀ (m i : Nat) (g : am_H) (c t : Nat), i + m = nn → wyC c t → wf g → grP g a f → fr [44, 45] [(43, 1), (43, 2)] h g → g.2.2.2 43 1 = (c : Int) → g.2.2.2 43 2 = (t : Int) → spN g c a f → nS g c (fun _ => 1) ≤ (10 : Int) ^ i → nS g c (loN a f md m) = lW a f md nn (stA a) → am_R (am_prog scr) (d + 3) f_Tally_drawLots 6 [some (.inr (.inr (((43) : Nat) : Int))), some (.inl ((nn : Int))), some (.inl ((i : Int))), none] [] g Q := by
    intro m
    induction m with
    | zero =>
      intro i g c t hi hc wg xg fg g1 g2 sp tg vg
      rw [show i = nn by omega] at tg
      have tg2 : tlI g := by
        rcases hc with ⟨q1, q2⟩ | ⟨q1, q2⟩
        · exact Or.inl ⟨by omega, by omega⟩
        · exact Or.inr ⟨by omega, by omega⟩
      exact w_Tally_drawLots_6 hs wg ⟨fun _ => H g c t hc wg xg fg tg2 g1 sp tg vg, fun c => by omega⟩
    | succ m ih =>
      intro i g c t hi hc wg xg fg g1 g2 sp tg vg
      have p10 := pw10 i (by omega)
      have kc := hc.k
      refine w_Tally_drawLots_6 hs wg ⟨fun c => by omega, fun _ => ?_⟩
      rw [g2]
      refine k_fillL (n := 185) hs wg kc.2.1.1 kc.2.1.2.1 (by omega) kc.2.1.2.2 (fun b wb fb eb => ⟨rfl, wb, ?_⟩)
      have b1 : b.2.2.2 43 1 = (c : Int) := by rw [fb.f 43 1 (by simp; omega) (by simp)]; exact g1
      have b2 : b.2.2.2 43 2 = (t : Int) := by rw [fb.f 43 2 (by simp; omega) (by simp)]; exact g2
      have bc : b.2.2.2 c = g.2.2.2 c := fb.c c (by simp; omega) (by simp)
      have spb : spN b c a f := by unfold spN; rw [bc]; exact sp
      have nSb : ∀ u, nS b c u = nS g c u := fun u => by unfold nS; rw [bc]
      have zt : ∀ n, n < 185 → b.2.2.2 t n = 0 := fun n hn => by rw [eb n, if_pos hn]
      refine k_dls_21 (b := b) (j := m) (md := md) hs r hc b1 b2 spb (by rw [nSb]; omega) (fun g3 y3 => ?_) 185 0 b rfl ⟨wb, xg.fr fb (by simp; omega) (by simp), fr.rfl, fun n hn => ⟨by rw [zt n hn]; omega, fun q => absurd (zt n hn) q⟩, ?_, ?_⟩
      · obtain ⟨z1, z2, z3, z4, z5, z6⟩ := y3
        have h1 : g3.2.2.2 43 1 = (c : Int) := by rw [z3.f 43 1 (by simp; omega) (by simp)]; exact b1
        have h2 : g3.2.2.2 43 2 = (t : Int) := by rw [z3.f 43 2 (by simp; omega) (by simp)]; exact b2
        refine k_endBeat hs z1 hc h1 h2 (fun g4 w4 f4 k1 k2 => ⟨rfl, w4, fun y hy => ?_⟩)
        rw [am_w_id (by omega) (by omega)] at hy
        obtain rfl : y = ((i + 1 : Nat) : Int) := by omega
        have ct : g4.2.2.2 t = g3.2.2.2 t := f4.c t (by simp) (by simp; omega)
        refine ih (i + 1) g4 t c (by omega) hc.s w4 (z2.fr f4 (by simp) (by decide)) (((fg.trans (fb.mono (by simp; omega) (by simp))).trans (z3.mono (by simp; omega) (by simp))).trans (f4.mono (by simp) (by simp))) k1 k2 (by unfold spN; rw [ct]; exact z4) ?_ ?_
        · rw [nSb] at z5
          have : nS g4 t (fun _ => 1) = nS g3 t (fun _ => 1) := by unfold nS; rw [ct]
          rw [this, Int.pow_succ]
          omega
        · have : nS g4 t (loN a f md m) = nS g3 t (loN a f md m) := by unfold nS; rw [ct]
          rw [this, z6, nSb, vg]
      · have : nS b t (fun _ => 1) = 0 := by
          unfold nS
          refine sumZ_zero (fun n hn => ?_)
          rw [zt n hn]; simp
        rw [this]; simp [sumZ]
      · have : ∀ u : Nat → Int, sumZ (fun n => b.2.2.2 t n * u n) 185 = 0 := fun u => sumZ_zero (fun n hn => by rw [zt n hn]; simp)
        exact this _
  have nb := node_b r.st.1
  have one : ∀ u : Nat → Int, nS g1 c u = u (nodeS (stA a)).toNat := by
    intro u
    unfold nS
    rw [sumZ_one (k := (nodeS (stA a)).toNat) (by omega) (fun i hi hne => ?_)]
    · show g1.2.2.2 c (nodeS (stA a)).toNat * u (nodeS (stA a)).toNat = _
      rw [ee _ (by omega), if_pos rfl]; omega
    · show g1.2.2.2 c i * u i = 0
      rw [ee i hi, if_neg hne]; simp
  have := lp nn 0 g1 c t (by omega) hc w1 x1 fr1 (by rw [f1.f 43 1 (by simp; omega) (by simp)]; exact e1) (by rw [f1.f 43 2 (by simp; omega) (by simp)]; exact e2) (fun n hn => ?_) (by rw [one]; simp) (by rw [one]; exact loN_node r.ok nn)
  · exact this
  · rw [ee n hn]
    by_cases q : n = (nodeS (stA a)).toNat
    · rw [if_pos q]; exact ⟨by omega, fun _ => ⟨stA a, Rch.zero, q⟩⟩
    · rw [if_neg q]; exact ⟨by omega, fun c => absurd rfl c⟩
theorem lotc_b {g : am_H} {nn : Nat} {v : Nat → Int} (hn : nn ≤ 7) (hv : ∀ n, n < 185 → 0 ≤ v n ∧ v n ≤ 4) (sp : spN g c a f) (tg : nS g c (fun _ => 1) ≤ (10 : Int) ^ nn) : ∀ k, k ≤ 185 → 0 ≤ sumZ (fun n => g.2.2.2 c n * v n) k ∧ sumZ (fun n => g.2.2.2 c n * v n) k ≤ 40000000 := by
  intro k hk
  have p := pw10 nn hn
  have tm : ∀ n : Nat, n < 185 → 0 ≤ g.2.2.2 c n * v n ∧ g.2.2.2 c n * v n ≤ g.2.2.2 c n * 4 := by
    intro n hn
    have c := hv n hn
    have s := (sp n hn).1
    exact ⟨Int.mul_nonneg s c.1, Int.mul_le_mul_of_nonneg_left c.2 s⟩
  have n1 := sumZ_nn (u := fun n => g.2.2.2 c n * v n) (n := k) (fun i hi => (tm i (by omega)).1)
  have n2 := sumZ_le (u := fun n => g.2.2.2 c n * v n) (v := fun n => g.2.2.2 c n * 4) (n := k) (fun i hi => (tm i (by omega)).2)
  have n3 := sumZ_mono (u := fun n => g.2.2.2 c n * 4) (k := k) (n := 185) (fun i hi => by
    show 0 ≤ g.2.2.2 c i * 4
    have := (sp i hi).1; omega) hk
  have n4 : ∀ m : Nat, sumZ (fun n => g.2.2.2 c n * 4) m = 4 * sumZ (fun n => g.2.2.2 c n * 1) m := by
    intro m
    induction m with
    | zero => rfl
    | succ m ih => rw [sumZ_succ, sumZ_succ, ih]; omega
  rw [n4 185] at n3
  rw [nS_1] at tg
  omega
theorem k_ends {nn : Nat} (hs : am_sc scr) (hw : wf h) (x : grP h a f) (r : rok a f B) (hc : wyC c t) (e1 : h.2.2.2 43 1 = (c : Int)) (hn : nn ≤ 7) (sp : spN h c a f) (tg : nS h c (fun _ => 1) ≤ (10 : Int) ^ nn) (H : 0 ≤ nS h c (loN a f 0 0) ∧ nS h c (loN a f 0 0) ≤ 40000000 → Q (some (.inr (.inl (nS h c (loN a f 0 0))))) h) : am_R (am_prog scr) (d + 1) f_Tally_endsDrawn 0 [some (.inr (.inr (((43) : Nat) : Int))), none, none, none] [] h Q := by
  have kc := hc.k
  have ev : sumZ (fun n => h.2.2.2 c n * (if n < 180 ∧ a 3 ≤ (n : Int) / 36 then 1 else 0)) 185 = nS h c (loN a f 0 0) := by
    unfold nS
    refine sumZ_congr (fun n hn => ?_)
    show h.2.2.2 c n * _ = h.2.2.2 c n * loN a f 0 0 n
    by_cases q : h.2.2.2 c n = 0
    · rw [q]; simp
    · obtain ⟨st, s1, s2⟩ := (sp n hn).2 q
      have so := s1.ok r
      have nb := node_b so.1
      have ei := end_iff so
      rw [s2, loN_node so]
      simp only [lW]
      rw [if_pos trivial, ← s2]
      by_cases q1 : actI st = a 3
      · rw [if_pos q1, if_pos (by have := ei.mpr q1; omega)]
      · rw [if_neg q1, if_neg (fun z => q1 (ei.mp (by omega)))]
  have bnd := lotc_b (v := fun n => if n < 180 ∧ a 3 ≤ (n : Int) / 36 then 1 else 0) hn (fun n hn => by
    show 0 ≤ (if n < 180 ∧ a 3 ≤ (n : Int) / 36 then (1 : Int) else 0) ∧ (if n < 180 ∧ a 3 ≤ (n : Int) / 36 then (1 : Int) else 0) ≤ 4
    split <;> omega) sp tg
  have lp : ∀ (m k : Nat), k + m = 185 → am_R (am_prog scr) (d + 1) f_Tally_endsDrawn 4 [some (.inr (.inr (((43) : Nat) : Int))), some (.inr (.inl (sumZ (fun n => h.2.2.2 c n * (if n < 180 ∧ a 3 ≤ (n : Int) / 36 then 1 else 0)) k))), none, some (.inl ((k : Int)))] [] h Q := by
    intro m
    induction m with
    | zero =>
      intro k hk
      rw [show k = 185 by omega, ev]
      have b0 := bnd 185 (by omega)
      rw [ev] at b0
      exact w_Tally_endsDrawn_4 hs hw ⟨fun _ => H b0, fun c => by omega⟩
    | succ m ih =>
      intro k hk
      have b0 := bnd k (by omega)
      have b1 := bnd (k + 1) (by omega)
      rw [sumZ_succ] at b1
      have ihk := ih (k + 1) (by omega)
      rw [sumZ_succ] at ihk
      refine w_Tally_endsDrawn_4 hs hw ⟨fun c => by omega, fun _ => ?_⟩
      refine k_gEndN hs hw x.1 (by omega) ⟨_, rfl, hw, fun c1 q hq => ?_, fun c1 => ?_⟩
      · rw [i0] at c1
        rw [am_w_id (by omega) (by omega)] at hq
        obtain rfl : q = ((k + 1 : Nat) : Int) := by omega
        rw [if_neg (by omega), Int.mul_zero, Int.add_zero] at ihk
        exact ihk
      · rw [i0, Decidable.not_not] at c1
        rw [if_pos (by omega), Int.mul_one] at ihk b1
        rw [e1, Int.toNat_natCast, Int.toNat_natCast]
        refine ⟨hw.a kc.1.1 kc.1.2.1 (by omega) (by omega), fun y7 h7 q hq => ?_⟩
        rw [am_w_id (by omega) (by omega)] at hq
        obtain rfl : q = ((k + 1 : Nat) : Int) := by omega
        rw [am_W_id (by omega) (by omega)] at h7
        rw [h7]
        exact ihk
  exact w_Tally_endsDrawn_0 hs hw (lp 185 0 rfl)
theorem k_acts {nn : Nat} (hs : am_sc scr) (hw : wf h) (x : grP h a f) (r : rok a f B) (hc : wyC c t) (e1 : h.2.2.2 43 1 = (c : Int)) (hn : nn ≤ 7) (sp : spN h c a f) (tg : nS h c (fun _ => 1) ≤ (10 : Int) ^ nn) (H : 0 ≤ nS h c (loN a f 1 0) ∧ nS h c (loN a f 1 0) ≤ 40000000 → Q (some (.inr (.inl (nS h c (loN a f 1 0))))) h) : am_R (am_prog scr) (d + 2) f_Tally_actsDrawn 0 [some (.inr (.inr (((43) : Nat) : Int))), none, none, none] [] h Q := by
  have kc := hc.k
  have ev : sumZ (fun n => h.2.2.2 c n * (if (n : Int) < 180 then (n : Int) / 36 else (n : Int) - 180)) 185 = nS h c (loN a f 1 0) := by
    unfold nS
    refine sumZ_congr (fun n hn => ?_)
    show h.2.2.2 c n * _ = h.2.2.2 c n * loN a f 1 0 n
    by_cases q : h.2.2.2 c n = 0
    · rw [q]; simp
    · obtain ⟨st, s1, s2⟩ := (sp n hn).2 q
      have so := s1.ok r
      have nb := node_b so.1
      rw [s2, loN_node so]
      have e0 : lW a f 1 0 st = actI st := by simp [lW]
      rw [e0, show (((nodeS st).toNat : Nat) : Int) = nodeS st by omega]
      congr 1
      by_cases q1 : st % 2 = 1
      · have no := nodeS_o so.1 q1
        rw [if_neg (by omega)]; omega
      · have ne := nodeS_e so.1 q1
        rw [if_pos (by omega)]
        omega
  have bnd := lotc_b (v := fun n => if (n : Int) < 180 then (n : Int) / 36 else (n : Int) - 180) hn (fun n hn => by
    show 0 ≤ (if (n : Int) < 180 then (n : Int) / 36 else (n : Int) - 180) ∧ (if (n : Int) < 180 then (n : Int) / 36 else (n : Int) - 180) ≤ 4
    split <;> omega) sp tg
  have lp : ∀ (m k : Nat), k + m = 185 → am_R (am_prog scr) (d + 2) f_Tally_actsDrawn 4 [some (.inr (.inr (((43) : Nat) : Int))), some (.inr (.inl (sumZ (fun n => h.2.2.2 c n * (if (n : Int) < 180 then (n : Int) / 36 else (n : Int) - 180)) k))), none, some (.inl ((k : Int)))] [] h Q := by
    intro m
    induction m with
    | zero =>
      intro k hk
      rw [show k = 185 by omega, ev]
      have b0 := bnd 185 (by omega)
      rw [ev] at b0
      exact w_Tally_actsDrawn_4 hs hw ⟨fun _ => H b0, fun c => by omega⟩
    | succ m ih =>
      intro k hk
      have b0 := bnd k (by omega)
      have b1 := bnd (k + 1) (by omega)
      rw [sumZ_succ] at b1
      have ihk := ih (k + 1) (by omega)
      rw [sumZ_succ] at ihk
      refine w_Tally_actsDrawn_4 hs hw ⟨fun c => by omega, fun _ => ?_⟩
      refine k_gAct hs hw (by omega) ⟨_, rfl, hw, ?_⟩
      rw [e1, Int.toNat_natCast, Int.toNat_natCast]
      refine ⟨hw.a kc.1.1 kc.1.2.1 (by omega) (by omega), fun y7 h7 q hq => ?_⟩
      rw [am_w_id (by omega) (by omega)] at hq
      obtain rfl : q = ((k + 1 : Nat) : Int) := by omega
      have p0 : 0 ≤ h.2.2.2 c k * (if (k : Int) < 180 then (k : Int) / 36 else (k : Int) - 180) := Int.mul_nonneg (sp k (by omega)).1 (by split <;> omega)
      rw [Int.mul_comm (if (k : Int) < 180 then (k : Int) / 36 else (k : Int) - 180), am_W_id (x := h.2.2.2 c k * _) (by omega) (by omega), am_W_id (by omega) (by omega)] at h7
      rw [h7]
      exact ihk
  exact w_Tally_actsDrawn_0 hs hw (lp 185 0 rfl)
theorem k_commonC {x0 x2 : Int} (hs : am_sc scr) (hw : wf h) : ∀ (n : Nat) (x y i : Int), 0 ≤ x → 0 ≤ y → y < ((2 ^ n : Nat) : Int) → 0 ≤ i → i + 2 * n + 1 ≤ 130 → Q (some (.inr (.inl (((Nat.gcd x.toNat y.toNat : Nat) : Int))))) h → am_R (am_prog scr) d f_Tally_commonDivisor 9 [some (.inr (.inl (x0))), none, some (.inr (.inl (x2))), none, some (.inr (.inl (x))), none, some (.inr (.inl (y))), none, some (.inl (i)), none, none] [] h Q := by
  intro n
  induction n with
  | zero =>
    intro x y i hx hy hy2 i0 i1 H
    have : y = 0 := by simp at hy2; omega
    subst this
    rw [show ((0 : Int).toNat) = 0 from rfl, Nat.gcd_zero_right, show ((x.toNat : Nat) : Int) = x by omega] at H
    exact w_Tally_commonDivisor_9 hs hw ⟨fun _ => H, fun _ => ⟨fun _ => H, fun c => absurd rfl c⟩⟩
  | succ n ih =>
    intro x y i hx hy hy2 i0 i1 H
    refine w_Tally_commonDivisor_9 hs hw ⟨fun c => by omega, fun _ => ⟨fun c => ?_, fun c => ⟨c, fun y1 h1 y2 h2 => ?_⟩⟩⟩
    · rw [c, show ((0 : Int).toNat) = 0 from rfl, Nat.gcd_zero_right, show ((x.toNat : Nat) : Int) = x by omega] at H
      exact H
    · have ypos : 0 < y := by omega
      have m1 := Int.emod_nonneg x (b := y) (by omega)
      rw [tm hx] at h1
      rw [am_w_id (by omega) (by omega)] at h2
      rw [gcd_step hx ypos, ← h1] at H
      refine w_Tally_commonDivisor_9 hs hw ⟨fun c => by omega, fun _ => ⟨fun c3 => ?_, fun c3 => ⟨c3, fun y3 h3 y4 h4 => ?_⟩⟩⟩
      · rw [c3, show ((0 : Int).toNat) = 0 from rfl, Nat.gcd_zero_right, show ((y.toNat : Nat) : Int) = y by omega] at H
        exact H
      · have hl := half_lt hx ypos (by omega)
        rw [tm hy] at h3
        rw [am_w_id (by omega) (by omega)] at h4
        rw [gcd_step hy (by omega), ← h3] at H
        rw [← h1, ← h3] at hl
        rw [Nat.pow_succ] at hy2
        exact ih y1 y3 y4 (by omega) (by rw [h3]; exact Int.emod_nonneg _ (by omega)) (by omega) (by omega) (by omega) H
theorem k_portion_73 {x1 x3 ab what : Int} {nn : Nat} (hs : am_sc scr) (hw : wf h) (e1 : x1 = (nn : Int)) (hn : nn ≤ 7) (h0 : 0 ≤ ab ∧ ab ≤ 40000000) (H : Q (some (.inl (q_part ab nn what))) h) : am_R (am_prog scr) (d + 1) f_S_portion 73 [some (.inr (.inr (((0) : Nat) : Int))), some (.inl (x1)), some (.inl (what)), some (.inl (x3)), some (.inr (.inl (ab))), none, some (.inr (.inl (1))), none, some (.inl (0)), none] [] h Q := by
  subst e1
  have lp : ∀ (m k : Nat), k + m = nn → am_R (am_prog scr) (d + 1) f_S_portion 73 [some (.inr (.inr (((0) : Nat) : Int))), some (.inl ((nn : Int))), some (.inl (what)), some (.inl (x3)), some (.inr (.inl (ab))), none, some (.inr (.inl ((10 : Int) ^ k))), none, some (.inl ((k : Int))), none] [] h Q := by
    intro m
    induction m with
    | zero =>
      intro k hk
      rw [show k = nn by omega]
      have p := pw10 nn hn
      have p24 : ((2 ^ 24 : Nat) : Int) = 16777216 := by decide
      have gp : 0 < Nat.gcd ab.toNat ((10 : Int) ^ nn).toNat := Nat.gcd_pos_of_pos_right _ (by omega)
      refine w_S_portion_73 hs hw ⟨fun _ => ?_, fun c => by omega⟩
      unfold q_part at H
      refine w_Tally_commonDivisor_0 hs hw ?_
      refine k_commonC hs hw 24 ab ((10 : Int) ^ nn) 0 h0.1 (by omega) (by omega) (by omega) (by omega) ⟨_, rfl, hw, ?_⟩
      generalize hg : Nat.gcd ab.toNat ((10 : Int) ^ nn).toNat = gg at gp H
      have dv : ∀ z : Int, 0 ≤ z → z ≤ 40000000 → am_w (am_W (z.tdiv ((gg : Nat) : Int))) = z / ((gg : Nat) : Int) := by
        intro z z0 z1
        rw [td z0]
        have d0 : 0 ≤ z / ((gg : Nat) : Int) := Int.ediv_nonneg z0 (by omega)
        have d1 : z / ((gg : Nat) : Int) ≤ z := Int.ediv_le_self _ z0
        rw [am_W_id (by omega) (by omega), am_w_id (by omega) (by omega)]
      refine ⟨fun _ => ⟨fun c => ⟨by omega, ?_⟩, fun c => ⟨by omega, ?_⟩⟩, fun c => by omega⟩
      · rw [if_neg c] at H
        rw [dv _ (by omega) (by omega)]
        exact H
      · rw [if_pos c] at H
        rw [dv _ h0.1 h0.2]
        exact H
    | succ m ih =>
      intro k hk
      have p := pw10 k (by omega)
      refine w_S_portion_73 hs hw ⟨fun c => by omega, fun _ y hy q hq => ?_⟩
      rw [am_W_id (by omega) (by omega), ← Int.pow_succ] at hy
      rw [am_w_id (by omega) (by omega)] at hq
      obtain rfl : q = ((k + 1 : Nat) : Int) := by omega
      subst hy
      exact ih (k + 1) (by omega)
  exact lp nn 0 (by omega)
theorem k_portion {n what : Int} (hmd : md = 0 ∨ md = 1) (hs : am_sc scr) (hw : wf h) (wo : wc h W) (x : plW h W 24 ser a) (r : rok a (W.2.2.1 ser) B) (hB : B < 900000) (y : grI h W B) (tl : tlI h) (H : ∀ g, wf g → fr TAL TAF h g → wc g W → grI g W (B + 400) → tlI g → Q (some (.inl (q_lots a (W.2.2.1 ser) md n what))) g) : am_R (am_prog scr) (d + 6) f_S_portion 0 [some (.inr (.inr (((0) : Nat) : Int))), some (.inl (n)), some (.inl (what)), some (.inl (md)), none, none, none, none, none, none] [] h Q := by
  have y0 : grI h W (B + 400) := y.fr (L := []) (F := []) fr.rfl (by simp) (by simp) (by omega)
  have H0 := H h hw fr.rfl wo y0 tl
  unfold q_lots at H H0
  refine w_S_portion_0 hs hw ⟨fun c => ?_, fun c => ⟨fun c2 => ⟨fun c3 => ?_, fun c3 => ⟨fun c4 => ?_, fun c4 => ?_⟩⟩, fun c2 => ?_⟩⟩
  · rw [if_neg (by omega)] at H0; exact H0
  · rw [if_pos (by omega), if_neg (by omega)] at H0; exact H0
  · rw [if_pos (by omega), if_pos (by omega)] at H
    refine k_prepare hs hw wo x r hB y (fun g1 w1 f1 wc1 y1 p1 => ⟨rfl, w1, ?_⟩)
    have en : n = ((n.toNat : Nat) : Int) := by omega
    have key : am_R (am_prog scr) (d + 5) f_Tally_drawLots 0 [some (.inr (.inr (((43) : Nat) : Int))), some (.inl (((n.toNat : Nat) : Int))), none, none] [] g1 (fun v g2 => v = none ∧ wf g2 ∧ ((md = 0 → (am_R (am_prog scr) (d + 5) f_Tally_endsDrawn 0 [some (.inr (.inr (((43) : Nat) : Int))), none, none, none] [] g2 (fun v g3 => ∃ r4, v = some (.inr (.inl (r4))) ∧ wf g3 ∧ (am_R (am_prog scr) (d + 6) f_S_portion 73 [some (.inr (.inr (((0) : Nat) : Int))), some (.inl (n)), some (.inl (what)), some (.inl (md)), some (.inr (.inl (r4))), none, some (.inr (.inl (1))), none, some (.inl (0)), none] [] g3 Q)))) ∧ (¬ (md = 0) → (am_R (am_prog scr) (d + 5) f_Tally_actsDrawn 0 [some (.inr (.inr (((43) : Nat) : Int))), none, none, none] [] g2 (fun v g5 => ∃ r6, v = some (.inr (.inl (r6))) ∧ wf g5 ∧ (am_R (am_prog scr) (d + 6) f_S_portion 73 [some (.inr (.inr (((0) : Nat) : Int))), some (.inl (n)), some (.inl (what)), some (.inl (md)), some (.inr (.inl (r6))), none, some (.inr (.inl (1))), none, some (.inl (0)), none] [] g5 Q)))))) := by
      refine k_drawLots (md := md) hs w1 p1 r (tl.fr f1 (by decide) (by decide)) (by omega) (fun g2 c t hc w2 x2 f2 t2 k1 sp tg vg => ⟨rfl, w2, fun cm => ?_, fun cm => ?_⟩)
      · subst cm
        refine k_ends hs w2 x2 r hc k1 (by omega) sp tg (fun hb => ⟨_, rfl, w2, ?_⟩)
        refine k_portion_73 hs w2 en (by omega) hb ?_
        rw [vg]
        exact H g2 w2 ((f1.mono (by decide) (by decide)).trans (f2.mono (by decide) (by decide))) (wc1.fr f2 (by decide) (by decide)) (y1.fr f2 (by decide) (by decide) (by omega)) t2
      · obtain rfl : md = 1 := by omega
        refine k_acts hs w2 x2 r hc k1 (by omega) sp tg (fun hb => ⟨_, rfl, w2, ?_⟩)
        refine k_portion_73 hs w2 en (by omega) hb ?_
        rw [vg]
        exact H g2 w2 ((f1.mono (by decide) (by decide)).trans (f2.mono (by decide) (by decide))) (wc1.fr f2 (by decide) (by decide)) (y1.fr f2 (by decide) (by decide) (by omega)) t2
    rw [← en] at key
    exact key
  · rw [if_pos (by omega), if_neg (by omega)] at H0; exact H0
  · rw [if_neg (by omega)] at H0; exact H0
theorem k_Schance {n what : Int} (hs : am_sc scr) (hw : wf h) (wo : wc h W) (x : plW h W 24 ser a) (r : rok a (W.2.2.1 ser) B) (hB : B < 900000) (y : grI h W B) (tl : tlI h) (H : ∀ g, wf g → fr TAL TAF h g → wc g W → grI g W (B + 400) → tlI g → Q (some (.inl (q_lots a (W.2.2.1 ser) 0 n what))) g) : am_R (am_prog scr) (d + 7) f_S_chance 0 [some (.inr (.inr (((0) : Nat) : Int))), some (.inl (n)), some (.inl (what))] [] h Q :=
  w_S_chance_0 hs hw (k_portion (Or.inl rfl) hs hw wo x r hB y tl (fun g w1 f1 wc1 y1 t1 => ⟨_, rfl, w1, H g w1 f1 wc1 y1 t1⟩))
theorem k_Smean {n what : Int} (hs : am_sc scr) (hw : wf h) (wo : wc h W) (x : plW h W 24 ser a) (r : rok a (W.2.2.1 ser) B) (hB : B < 900000) (y : grI h W B) (tl : tlI h) (H : ∀ g, wf g → fr TAL TAF h g → wc g W → grI g W (B + 400) → tlI g → Q (some (.inl (q_lots a (W.2.2.1 ser) 1 n what))) g) : am_R (am_prog scr) (d + 7) f_S_mean 0 [some (.inr (.inr (((0) : Nat) : Int))), some (.inl (n)), some (.inl (what))] [] h Q :=
  w_S_mean_0 hs hw (k_portion (Or.inr rfl) hs hw wo x r hB y tl (fun g w1 f1 wc1 y1 t1 => ⟨_, rfl, w1, H g w1 f1 wc1 y1 t1⟩))
end LC
